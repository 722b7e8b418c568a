/-! X8_hold -/
noncomputable def F_X8_hold (t_holders_sort : Nat → Int32) (t_holders_tree : Nat → Int64) (t_holders_limit : Nat → Int32) (t_holders_above : Nat → Int64) (t_desk_genus : Int32) (t_desk_size : Int32) (t_desk_limit : Int32) (t_desk_tree : Int64) (t_numbers_size : Int32) (t_numbers_sum : Int32) (t_numbers_gathered : Int64) (a_t_desk_powers : Nat → Int32) (a_t_numbers_keys : Nat → Int64) (a_t_numbers_aboves : Nat → Int64) (p0 : Int32) (p1 : Int32) : Option (Int32 × (Nat → Int64) × (Nat → Int64) × Int32 × Int32 × Int64 × (Nat → Int64) × (Nat → Int32) × (Nat → Int32) × (Nat → Int64)) :=
  bd (F_X8_holderAt p0) (fun x1 => if x1 = 6 then (some ((-1 : Int32), a_t_numbers_keys, a_t_numbers_aboves, t_numbers_size, t_numbers_sum, t_numbers_gathered, t_holders_above, t_holders_limit, t_holders_sort, t_holders_tree)) else (if p1 < 0 then (some ((-1 : Int32), a_t_numbers_keys, a_t_numbers_aboves, t_numbers_size, t_numbers_sum, t_numbers_gathered, t_holders_above, t_holders_limit, t_holders_sort, t_holders_tree)) else (if p1 ≤ (1 : Int32) then (if p1 = 0 then (bd (F_X8_number t_numbers_size t_numbers_sum t_numbers_gathered t_desk_genus t_desk_size a_t_desk_powers a_t_numbers_keys a_t_numbers_aboves (0 : Int32)) (fun x7 => bd (F_X2_holdNumber (x7.1)) (fun x8 => some (t_desk_size, (x7.2.1), (x7.2.2.1), (x7.2.2.2.1), (x7.2.2.2.2.1), (x7.2.2.2.2.2), (va_up t_holders_above x1 (x8.2)), t_holders_limit, (va_up t_holders_sort x1 (x8.1)), t_holders_tree)))) else (bd (F_X2_holdTree t_desk_tree t_desk_limit) (fun x5 => bd (F_X6_sizeOf t_desk_tree) (fun x6 => some (x6, a_t_numbers_keys, a_t_numbers_aboves, t_numbers_size, t_numbers_sum, t_numbers_gathered, t_holders_above, (va_up t_holders_limit x1 (x5.2.2)), (va_up t_holders_sort x1 (x5.1)), (va_up t_holders_tree x1 (x5.2.1))))))) else (some ((-1 : Int32), a_t_numbers_keys, a_t_numbers_aboves, t_numbers_size, t_numbers_sum, t_numbers_gathered, t_holders_above, t_holders_limit, t_holders_sort, t_holders_tree)))))
theorem in_X8_hold_X1 : ∀ w ∈ wsX10, w ∈ wsX8_hold := mem_r _ [143, 144, 145, 146, 147] (by decide +kernel)
theorem in_X8_hold_X8 : ∀ w ∈ wsX80, w ∈ wsX8_hold := mem_r _ [134, 135, 136, 137, 138, 139, 140, 141, 142] (by decide +kernel)
set_option maxHeartbeats 40000000 in
set_option maxRecDepth 100000 in
theorem c_X8_hold (l : Launch) (G : va_G) (cI cJ cD cH : ClassId) (sz : Nat) (h_t : Nat) (h_t_holders : Nat) (h_t_desk : Nat) (h_t_numbers : Nat) (h_t_desk_powers : Nat) (h_t_numbers_keys : Nat) (h_t_numbers_aboves : Nat) (h_t_imageDesk : Nat) (h_t_deeds : Nat) (h_t_tape : Nat) (h_t_reader : Nat) (h_t_speller : Nat) (h_t_numbers_rounds : Nat) (d_t_holders : Nat → Nat) (q_t_holders : Nat → Nat) (a_t_holders : Nat → Nat → Int32) (t_holders_sort : Nat → Int32) (t_holders_tree : Nat → Int64) (t_holders_limit : Nat → Int32) (t_holders_above : Nat → Int64) (t_holders_size : Nat → Int32) (t_imageKept : Int32) (t_desk_genus : Int32) (t_desk_size : Int32) (t_desk_limit : Int32) (t_desk_tree : Int64) (t_numbers_round : Int32) (t_numbers_size : Int32) (t_numbers_sum : Int32) (t_numbers_gathered : Int64) (a_t_desk_powers : Nat → Int32) (a_t_numbers_keys : Nat → Int64) (a_t_numbers_aboves : Nat → Int64) (p0 : Int32) (p1 : Int32) (r0 : Int32) (w0 : Nat → Int64) (w1 : Nat → Int64) (w2 : Int32) (w3 : Int32) (w4 : Int64) (w5 : Nat → Int64) (w6 : Nat → Int32) (w7 : Nat → Int32) (w8 : Nat → Int64) (hF : F_X8_hold t_holders_sort t_holders_tree t_holders_limit t_holders_above t_desk_genus t_desk_size t_desk_limit t_desk_tree t_numbers_size t_numbers_sum t_numbers_gathered a_t_desk_powers a_t_numbers_keys a_t_numbers_aboves p0 p1 = some (r0, w0, w1, w2, w3, w4, w5, w6, w7, w8)) : Met l yX8_hold wsX8_hold ({ frames := 26, cells := 0, slots := 0, locals := 745 }) (k_pre G (k_T cI cJ cD cH) [(h_t, .inr (7, [.ref h_t_desk, .ref h_t_imageDesk, .ref h_t_deeds, .ref h_t_numbers, .ref h_t_tape, .ref h_t_reader, .ref h_t_speller, .ref h_t_holders, .int t_imageKept])), (h_t_holders, .inl (cH, 6, .inr (.inr (.inr (.inr (fun i => some (d_t_holders i))))))), ((d_t_holders 0), .inr (2, [.int (t_holders_sort 0), .long (t_holders_tree 0), .int (t_holders_limit 0), .ref (q_t_holders 0), .long (t_holders_above 0), .int (t_holders_size 0)])), ((q_t_holders 0), .inl (cI, 20, .inl (a_t_holders 0))), ((d_t_holders 1), .inr (2, [.int (t_holders_sort 1), .long (t_holders_tree 1), .int (t_holders_limit 1), .ref (q_t_holders 1), .long (t_holders_above 1), .int (t_holders_size 1)])), ((q_t_holders 1), .inl (cI, 20, .inl (a_t_holders 1))), ((d_t_holders 2), .inr (2, [.int (t_holders_sort 2), .long (t_holders_tree 2), .int (t_holders_limit 2), .ref (q_t_holders 2), .long (t_holders_above 2), .int (t_holders_size 2)])), ((q_t_holders 2), .inl (cI, 20, .inl (a_t_holders 2))), ((d_t_holders 3), .inr (2, [.int (t_holders_sort 3), .long (t_holders_tree 3), .int (t_holders_limit 3), .ref (q_t_holders 3), .long (t_holders_above 3), .int (t_holders_size 3)])), ((q_t_holders 3), .inl (cI, 20, .inl (a_t_holders 3))), ((d_t_holders 4), .inr (2, [.int (t_holders_sort 4), .long (t_holders_tree 4), .int (t_holders_limit 4), .ref (q_t_holders 4), .long (t_holders_above 4), .int (t_holders_size 4)])), ((q_t_holders 4), .inl (cI, 20, .inl (a_t_holders 4))), ((d_t_holders 5), .inr (2, [.int (t_holders_sort 5), .long (t_holders_tree 5), .int (t_holders_limit 5), .ref (q_t_holders 5), .long (t_holders_above 5), .int (t_holders_size 5)])), ((q_t_holders 5), .inl (cI, 20, .inl (a_t_holders 5))), (h_t_desk, .inr (1, [.int t_desk_genus, .int t_desk_size, .ref h_t_desk_powers, .int t_desk_limit, .long t_desk_tree])), (h_t_numbers, .inr (3, [.ref h_t_numbers_keys, .ref h_t_numbers_aboves, .ref h_t_numbers_rounds, .int t_numbers_round, .int t_numbers_size, .int t_numbers_sum, .long t_numbers_gathered])), (h_t_desk_powers, .inl (cI, 8, .inl a_t_desk_powers)), (h_t_numbers_keys, .inl (cJ, 1024, .inr (.inl a_t_numbers_keys))), (h_t_numbers_aboves, .inl (cJ, 1024, .inr (.inl a_t_numbers_aboves)))] sz [.ref h_t, .int p0, .int p1]) (va_Qi (fun r (_ : Unit) => r = r0 ∧ True) (fun _ t => va_P G vwCl [(h_t, .inr (7, [.ref h_t_desk, .ref h_t_imageDesk, .ref h_t_deeds, .ref h_t_numbers, .ref h_t_tape, .ref h_t_reader, .ref h_t_speller, .ref h_t_holders, .int t_imageKept])), (h_t_holders, .inl (cH, 6, .inr (.inr (.inr (.inr (fun i => some (d_t_holders i))))))), ((d_t_holders 0), .inr (2, [.int (w7 0), .long (w8 0), .int (w6 0), .ref (q_t_holders 0), .long (w5 0), .int (t_holders_size 0)])), ((q_t_holders 0), .inl (cI, 20, .inl (a_t_holders 0))), ((d_t_holders 1), .inr (2, [.int (w7 1), .long (w8 1), .int (w6 1), .ref (q_t_holders 1), .long (w5 1), .int (t_holders_size 1)])), ((q_t_holders 1), .inl (cI, 20, .inl (a_t_holders 1))), ((d_t_holders 2), .inr (2, [.int (w7 2), .long (w8 2), .int (w6 2), .ref (q_t_holders 2), .long (w5 2), .int (t_holders_size 2)])), ((q_t_holders 2), .inl (cI, 20, .inl (a_t_holders 2))), ((d_t_holders 3), .inr (2, [.int (w7 3), .long (w8 3), .int (w6 3), .ref (q_t_holders 3), .long (w5 3), .int (t_holders_size 3)])), ((q_t_holders 3), .inl (cI, 20, .inl (a_t_holders 3))), ((d_t_holders 4), .inr (2, [.int (w7 4), .long (w8 4), .int (w6 4), .ref (q_t_holders 4), .long (w5 4), .int (t_holders_size 4)])), ((q_t_holders 4), .inl (cI, 20, .inl (a_t_holders 4))), ((d_t_holders 5), .inr (2, [.int (w7 5), .long (w8 5), .int (w6 5), .ref (q_t_holders 5), .long (w5 5), .int (t_holders_size 5)])), ((q_t_holders 5), .inl (cI, 20, .inl (a_t_holders 5))), (h_t_desk, .inr (1, [.int t_desk_genus, .int t_desk_size, .ref h_t_desk_powers, .int t_desk_limit, .long t_desk_tree])), (h_t_numbers, .inr (3, [.ref h_t_numbers_keys, .ref h_t_numbers_aboves, .ref h_t_numbers_rounds, .int t_numbers_round, .int w2, .int w3, .long w4])), (h_t_desk_powers, .inl (cI, 8, .inl a_t_desk_powers)), (h_t_numbers_keys, .inl (cJ, 1024, .inr (.inl w0))), (h_t_numbers_aboves, .inl (cJ, 1024, .inr (.inl w1)))] t.heap) (va_A [(h_t, .inr (7, [.ref h_t_desk, .ref h_t_imageDesk, .ref h_t_deeds, .ref h_t_numbers, .ref h_t_tape, .ref h_t_reader, .ref h_t_speller, .ref h_t_holders, .int t_imageKept])), (h_t_holders, .inl (cH, 6, .inr (.inr (.inr (.inr (fun i => some (d_t_holders i))))))), ((d_t_holders 0), .inr (2, [.int (t_holders_sort 0), .long (t_holders_tree 0), .int (t_holders_limit 0), .ref (q_t_holders 0), .long (t_holders_above 0), .int (t_holders_size 0)])), ((q_t_holders 0), .inl (cI, 20, .inl (a_t_holders 0))), ((d_t_holders 1), .inr (2, [.int (t_holders_sort 1), .long (t_holders_tree 1), .int (t_holders_limit 1), .ref (q_t_holders 1), .long (t_holders_above 1), .int (t_holders_size 1)])), ((q_t_holders 1), .inl (cI, 20, .inl (a_t_holders 1))), ((d_t_holders 2), .inr (2, [.int (t_holders_sort 2), .long (t_holders_tree 2), .int (t_holders_limit 2), .ref (q_t_holders 2), .long (t_holders_above 2), .int (t_holders_size 2)])), ((q_t_holders 2), .inl (cI, 20, .inl (a_t_holders 2))), ((d_t_holders 3), .inr (2, [.int (t_holders_sort 3), .long (t_holders_tree 3), .int (t_holders_limit 3), .ref (q_t_holders 3), .long (t_holders_above 3), .int (t_holders_size 3)])), ((q_t_holders 3), .inl (cI, 20, .inl (a_t_holders 3))), ((d_t_holders 4), .inr (2, [.int (t_holders_sort 4), .long (t_holders_tree 4), .int (t_holders_limit 4), .ref (q_t_holders 4), .long (t_holders_above 4), .int (t_holders_size 4)])), ((q_t_holders 4), .inl (cI, 20, .inl (a_t_holders 4))), ((d_t_holders 5), .inr (2, [.int (t_holders_sort 5), .long (t_holders_tree 5), .int (t_holders_limit 5), .ref (q_t_holders 5), .long (t_holders_above 5), .int (t_holders_size 5)])), ((q_t_holders 5), .inl (cI, 20, .inl (a_t_holders 5))), (h_t_desk, .inr (1, [.int t_desk_genus, .int t_desk_size, .ref h_t_desk_powers, .int t_desk_limit, .long t_desk_tree])), (h_t_numbers, .inr (3, [.ref h_t_numbers_keys, .ref h_t_numbers_aboves, .ref h_t_numbers_rounds, .int t_numbers_round, .int t_numbers_size, .int t_numbers_sum, .long t_numbers_gathered])), (h_t_desk_powers, .inl (cI, 8, .inl a_t_desk_powers)), (h_t_numbers_keys, .inl (cJ, 1024, .inr (.inl a_t_numbers_keys))), (h_t_numbers_aboves, .inl (cJ, 1024, .inr (.inl a_t_numbers_aboves)))] sz)) 0 0 (va_A [(h_t, .inr (7, [.ref h_t_desk, .ref h_t_imageDesk, .ref h_t_deeds, .ref h_t_numbers, .ref h_t_tape, .ref h_t_reader, .ref h_t_speller, .ref h_t_holders, .int t_imageKept])), (h_t_holders, .inl (cH, 6, .inr (.inr (.inr (.inr (fun i => some (d_t_holders i))))))), ((d_t_holders 0), .inr (2, [.int (t_holders_sort 0), .long (t_holders_tree 0), .int (t_holders_limit 0), .ref (q_t_holders 0), .long (t_holders_above 0), .int (t_holders_size 0)])), ((q_t_holders 0), .inl (cI, 20, .inl (a_t_holders 0))), ((d_t_holders 1), .inr (2, [.int (t_holders_sort 1), .long (t_holders_tree 1), .int (t_holders_limit 1), .ref (q_t_holders 1), .long (t_holders_above 1), .int (t_holders_size 1)])), ((q_t_holders 1), .inl (cI, 20, .inl (a_t_holders 1))), ((d_t_holders 2), .inr (2, [.int (t_holders_sort 2), .long (t_holders_tree 2), .int (t_holders_limit 2), .ref (q_t_holders 2), .long (t_holders_above 2), .int (t_holders_size 2)])), ((q_t_holders 2), .inl (cI, 20, .inl (a_t_holders 2))), ((d_t_holders 3), .inr (2, [.int (t_holders_sort 3), .long (t_holders_tree 3), .int (t_holders_limit 3), .ref (q_t_holders 3), .long (t_holders_above 3), .int (t_holders_size 3)])), ((q_t_holders 3), .inl (cI, 20, .inl (a_t_holders 3))), ((d_t_holders 4), .inr (2, [.int (t_holders_sort 4), .long (t_holders_tree 4), .int (t_holders_limit 4), .ref (q_t_holders 4), .long (t_holders_above 4), .int (t_holders_size 4)])), ((q_t_holders 4), .inl (cI, 20, .inl (a_t_holders 4))), ((d_t_holders 5), .inr (2, [.int (t_holders_sort 5), .long (t_holders_tree 5), .int (t_holders_limit 5), .ref (q_t_holders 5), .long (t_holders_above 5), .int (t_holders_size 5)])), ((q_t_holders 5), .inl (cI, 20, .inl (a_t_holders 5))), (h_t_desk, .inr (1, [.int t_desk_genus, .int t_desk_size, .ref h_t_desk_powers, .int t_desk_limit, .long t_desk_tree])), (h_t_numbers, .inr (3, [.ref h_t_numbers_keys, .ref h_t_numbers_aboves, .ref h_t_numbers_rounds, .int t_numbers_round, .int t_numbers_size, .int t_numbers_sum, .long t_numbers_gathered])), (h_t_desk_powers, .inl (cI, 8, .inl a_t_desk_powers)), (h_t_numbers_keys, .inl (cJ, 1024, .inr (.inl a_t_numbers_keys))), (h_t_numbers_aboves, .inl (cJ, 1024, .inr (.inl a_t_numbers_aboves)))] sz) := by
  refine Met.ofW (cc := cX8_hold) (maxL := 4) (ret := (some .int)) (by decide) rfl ?_
  intro p e s m args below meth c s₁ B hml hv
  obtain ⟨rfl, hsz, hP, hK, hD0⟩ := hv
  have hx := B.exec
  have hb := B.bytes
  have hr := B.returns
  have hts := atoms_spec (ws := wsX8_hold) B.pre
  have hown : s.vm.findClass RX8 = some m.cls := findClass_of_methodNamed B.named
  have hlocks := B.notSynchronized
  subst hsz
  have hD := hD0.self (sz := s.heap.size)
  generalize hAe : va_A [(h_t, .inr (7, [.ref h_t_desk, .ref h_t_imageDesk, .ref h_t_deeds, .ref h_t_numbers, .ref h_t_tape, .ref h_t_reader, .ref h_t_speller, .ref h_t_holders, .int t_imageKept])), (h_t_holders, .inl (cH, 6, .inr (.inr (.inr (.inr (fun i => some (d_t_holders i))))))), ((d_t_holders 0), .inr (2, [.int (t_holders_sort 0), .long (t_holders_tree 0), .int (t_holders_limit 0), .ref (q_t_holders 0), .long (t_holders_above 0), .int (t_holders_size 0)])), ((q_t_holders 0), .inl (cI, 20, .inl (a_t_holders 0))), ((d_t_holders 1), .inr (2, [.int (t_holders_sort 1), .long (t_holders_tree 1), .int (t_holders_limit 1), .ref (q_t_holders 1), .long (t_holders_above 1), .int (t_holders_size 1)])), ((q_t_holders 1), .inl (cI, 20, .inl (a_t_holders 1))), ((d_t_holders 2), .inr (2, [.int (t_holders_sort 2), .long (t_holders_tree 2), .int (t_holders_limit 2), .ref (q_t_holders 2), .long (t_holders_above 2), .int (t_holders_size 2)])), ((q_t_holders 2), .inl (cI, 20, .inl (a_t_holders 2))), ((d_t_holders 3), .inr (2, [.int (t_holders_sort 3), .long (t_holders_tree 3), .int (t_holders_limit 3), .ref (q_t_holders 3), .long (t_holders_above 3), .int (t_holders_size 3)])), ((q_t_holders 3), .inl (cI, 20, .inl (a_t_holders 3))), ((d_t_holders 4), .inr (2, [.int (t_holders_sort 4), .long (t_holders_tree 4), .int (t_holders_limit 4), .ref (q_t_holders 4), .long (t_holders_above 4), .int (t_holders_size 4)])), ((q_t_holders 4), .inl (cI, 20, .inl (a_t_holders 4))), ((d_t_holders 5), .inr (2, [.int (t_holders_sort 5), .long (t_holders_tree 5), .int (t_holders_limit 5), .ref (q_t_holders 5), .long (t_holders_above 5), .int (t_holders_size 5)])), ((q_t_holders 5), .inl (cI, 20, .inl (a_t_holders 5))), (h_t_desk, .inr (1, [.int t_desk_genus, .int t_desk_size, .ref h_t_desk_powers, .int t_desk_limit, .long t_desk_tree])), (h_t_numbers, .inr (3, [.ref h_t_numbers_keys, .ref h_t_numbers_aboves, .ref h_t_numbers_rounds, .int t_numbers_round, .int t_numbers_size, .int t_numbers_sum, .long t_numbers_gathered])), (h_t_desk_powers, .inl (cI, 8, .inl a_t_desk_powers)), (h_t_numbers_keys, .inl (cJ, 1024, .inr (.inl a_t_numbers_keys))), (h_t_numbers_aboves, .inl (cJ, 1024, .inr (.inl a_t_numbers_aboves)))] s.heap.size = A at hD ⊢
  have hA : ∀ q : Nat, s.heap.size ≤ q → A q := fun q h => by rw [← hAe]; exact Or.inr h
  have hS : va_S A s.heap s.heap [] := va_S.rf
  have hl := lv_entry ([.ref h_t, .int p0, .int p1]) (n := 4) (Nat.le_of_ble_eq_true rfl)
  rw [lg_entry_eq]
  generalize (lg_sl ([.ref h_t, .int p0, .int p1]) ++ List.replicate (4 - (lg_sl ([.ref h_t, .int p0, .int p1])).length) Slot.unset).toArray = ls at hl ⊢
  have hl : lv_has ls 4 [(0, .ref h_t), (1, .int p0), (2, .int p1)] := hl
  have hinX1 : ∀ w ∈ wsX10, w ∈ wsX8_hold := in_X8_hold_X1
  have hinX8 : ∀ w ∈ wsX80, w ∈ wsX8_hold := in_X8_hold_X8
  have h := hF
  unfold F_X8_hold at h
  refine lv_aload_n hx hb dX8_hold_0 rfl (lv_at hl 0 rfl) ?_
  refine lv_iload_n hx hb dX8_hold_1 rfl (lv_at hl 1 rfl) ?_
  obtain ⟨x1, hx1, h⟩ := bd_e h
  try dsimp only at h
  have hb1 := k_lt_X8_holderAt hx1
  obtain rfl | rfl | rfl | rfl | rfl | rfl | rfl := k_lt7 hb1
  · refine k_VqU (n := 1) (As := [.int p0]) (rest := []) hx hb hml hown hts (c_X8_holderAt l G cI cJ cD cH s.heap.size h_t h_t_holders h_t_desk h_t_imageDesk h_t_deeds h_t_numbers h_t_tape h_t_reader h_t_speller d_t_holders q_t_holders a_t_holders t_holders_sort t_holders_tree t_holders_limit t_holders_above t_holders_size t_imageKept p0 0 hx1) gX8_hold_X8_holderAt rfl rfl rfl (by decide +kernel) ⟨by first | exact Nat.le_of_ble_eq_true rfl | (simp only [headSpec]; omega), by first | exact Nat.le_of_ble_eq_true rfl | (simp only [headSpec]; omega)⟩ hK hP hD hS hA [0, 1, 2, 3, 4, 5, 6, 7, 8, 9, 10, 11, 12, 13] (by decide) rfl (ci := 7) rfl rfl rfl rfl rfl hl.1 (Nat.le_of_ble_eq_true rfl) dX8_hold_2 ⟨Nat.zero_le _, Nat.zero_le _⟩ (fun hp1 H locs hP hS => ?_)
    refine W.eq (g2 := F0 m 5 ls [.ref (d_t_holders 0)]) rfl ?_
    have h := it_n h (by decide)
    refine lv_astore_n (lv' := [(3, .ref (d_t_holders 0)), (0, .ref h_t), (1, .int p0), (2, .int p1)]) hx hb dX8_hold_5 rfl hl (by decide) rfl (fun ls hl => ?_)
    refine lv_aload_n hx hb dX8_hold_6 rfl (lv_at hl 0 rfl) ?_
    refine lv_ifnull hx hb dX8_hold_7 ?_
    refine lv_iload_n hx hb dX8_hold_10 rfl (lv_at hl 3 rfl) ?_
    refine lv_if_lt (tgt := 19) hx hb dX8_hold_11 (by decide) (fun c2 => ?_) (fun c2 => ?_)
    · have h := it_p h c2
      refine lv_iconst (v := (-1 : Int32)) hx hb dX8_hold_19 (by decide) ?_
      cases h
      exact k_iret hx hb hr hlocks hP hS rfl dX8_hold_20
    have h := it_n h c2
    refine lv_iload_n hx hb dX8_hold_14 rfl (lv_at hl 3 rfl) ?_
    refine lv_iconst (v := (1 : Int32)) hx hb dX8_hold_15 (by decide) ?_
    refine lv_icmp_le (tgt := 21) hx hb dX8_hold_16 (by decide) (fun c3 => ?_) (fun c3 => ?_)
    rotate_left
    · have h := it_n h c3
      refine lv_iconst (v := (-1 : Int32)) hx hb dX8_hold_19 (by decide) ?_
      cases h
      exact k_iret hx hb hr hlocks hP hS rfl dX8_hold_20
    have h := it_p h c3
    refine lv_iload_n hx hb dX8_hold_21 rfl (lv_at hl 3 rfl) ?_
    refine lv_if_ne (tgt := 42) hx hb dX8_hold_22 (by decide) (fun c4 => ?_) (fun c4 => ?_)
    rotate_left
    · have h := it_p h c4
      refine lv_aload_n hx hb dX8_hold_25 rfl (lv_at hl 0 rfl) ?_
      refine lv_aload_n hx hb dX8_hold_26 rfl (lv_at hl 1 rfl) ?_
      refine lv_iconst (v := (0 : Int32)) hx hb dX8_hold_27 (by decide) ?_
      obtain ⟨x7, hx7, h⟩ := bd_e h
      try dsimp only at h
      refine k_Vl (n := 1) (As := [.int (0 : Int32)]) (rest := [.ref (d_t_holders 0)]) hx hb hml hown hts (c_X8_number l G cI cJ cD cH H.size h_t h_t_numbers h_t_desk h_t_desk_powers h_t_numbers_keys h_t_numbers_aboves h_t_imageDesk h_t_deeds h_t_tape h_t_reader h_t_speller h_t_holders h_t_numbers_rounds t_imageKept t_numbers_round t_numbers_size t_numbers_sum t_numbers_gathered t_desk_genus t_desk_size t_desk_limit t_desk_tree a_t_desk_powers a_t_numbers_keys a_t_numbers_aboves (0 : Int32) (x7.1) (x7.2.1) (x7.2.2.1) (x7.2.2.2.1) (x7.2.2.2.2.1) (x7.2.2.2.2.2) hx7) gX8_hold_X8_number rfl rfl rfl (by decide +kernel) ⟨by first | exact Nat.le_of_ble_eq_true rfl | (simp only [headSpec]; omega), by first | exact Nat.le_of_ble_eq_true rfl | (simp only [headSpec]; omega)⟩ hK hP hD hS hA [0, 15, 14, 16, 17, 18] (by decide) rfl rfl (ci := 7) rfl rfl rfl rfl rfl hl.1 (Nat.le_of_ble_eq_true rfl) dX8_hold_28 ⟨Nat.zero_le _, Nat.zero_le _⟩ [(h_t, .inr (7, [.ref h_t_desk, .ref h_t_imageDesk, .ref h_t_deeds, .ref h_t_numbers, .ref h_t_tape, .ref h_t_reader, .ref h_t_speller, .ref h_t_holders, .int t_imageKept])), (h_t_holders, .inl (cH, 6, .inr (.inr (.inr (.inr (fun i => some (d_t_holders i))))))), ((d_t_holders 0), .inr (2, [.int (t_holders_sort 0), .long (t_holders_tree 0), .int (t_holders_limit 0), .ref (q_t_holders 0), .long (t_holders_above 0), .int (t_holders_size 0)])), ((q_t_holders 0), .inl (cI, 20, .inl (a_t_holders 0))), ((d_t_holders 1), .inr (2, [.int (t_holders_sort 1), .long (t_holders_tree 1), .int (t_holders_limit 1), .ref (q_t_holders 1), .long (t_holders_above 1), .int (t_holders_size 1)])), ((q_t_holders 1), .inl (cI, 20, .inl (a_t_holders 1))), ((d_t_holders 2), .inr (2, [.int (t_holders_sort 2), .long (t_holders_tree 2), .int (t_holders_limit 2), .ref (q_t_holders 2), .long (t_holders_above 2), .int (t_holders_size 2)])), ((q_t_holders 2), .inl (cI, 20, .inl (a_t_holders 2))), ((d_t_holders 3), .inr (2, [.int (t_holders_sort 3), .long (t_holders_tree 3), .int (t_holders_limit 3), .ref (q_t_holders 3), .long (t_holders_above 3), .int (t_holders_size 3)])), ((q_t_holders 3), .inl (cI, 20, .inl (a_t_holders 3))), ((d_t_holders 4), .inr (2, [.int (t_holders_sort 4), .long (t_holders_tree 4), .int (t_holders_limit 4), .ref (q_t_holders 4), .long (t_holders_above 4), .int (t_holders_size 4)])), ((q_t_holders 4), .inl (cI, 20, .inl (a_t_holders 4))), ((d_t_holders 5), .inr (2, [.int (t_holders_sort 5), .long (t_holders_tree 5), .int (t_holders_limit 5), .ref (q_t_holders 5), .long (t_holders_above 5), .int (t_holders_size 5)])), ((q_t_holders 5), .inl (cI, 20, .inl (a_t_holders 5))), (h_t_desk, .inr (1, [.int t_desk_genus, .int t_desk_size, .ref h_t_desk_powers, .int t_desk_limit, .long t_desk_tree])), (h_t_numbers, .inr (3, [.ref h_t_numbers_keys, .ref h_t_numbers_aboves, .ref h_t_numbers_rounds, .int t_numbers_round, .int (x7.2.2.2.1), .int (x7.2.2.2.2.1), .long (x7.2.2.2.2.2)])), (h_t_desk_powers, .inl (cI, 8, .inl a_t_desk_powers)), (h_t_numbers_keys, .inl (cJ, 1024, .inr (.inl (x7.2.1)))), (h_t_numbers_aboves, .inl (cJ, 1024, .inr (.inl (x7.2.2.1))))] [1, 2, 3, 4, 5, 6, 7, 8, 9, 10, 11, 12, 13] 19 rfl rfl rfl (by decide +kernel) rfl (fun hp7 H locs hP hD hS => ?_)
      obtain ⟨x8, hx8, h⟩ := bd_e h
      try dsimp only at h
      refine k_Vv (n := 1) (As := [.long (x7.1)]) (rest := []) hx hb hml hown hts (c_X2_holdNumber l G cI cJ cD cH H.size (d_t_holders 0) (q_t_holders 0) (t_holders_sort 0) (t_holders_tree 0) (t_holders_limit 0) (t_holders_above 0) (t_holders_size 0) (x7.1) (x8.1) (x8.2) hx8) gX8_hold_X2_holdNumber rfl rfl rfl (by decide +kernel) ⟨by first | exact Nat.le_of_ble_eq_true rfl | (simp only [headSpec]; omega), by first | exact Nat.le_of_ble_eq_true rfl | (simp only [headSpec]; omega)⟩ hK hP hD hS hA [2] (by decide) rfl rfl (ci := 2) rfl rfl rfl rfl rfl hl.1 (Nat.le_of_ble_eq_true rfl) dX8_hold_31 ⟨Nat.zero_le _, Nat.zero_le _⟩ [(h_t, .inr (7, [.ref h_t_desk, .ref h_t_imageDesk, .ref h_t_deeds, .ref h_t_numbers, .ref h_t_tape, .ref h_t_reader, .ref h_t_speller, .ref h_t_holders, .int t_imageKept])), (h_t_holders, .inl (cH, 6, .inr (.inr (.inr (.inr (fun i => some (d_t_holders i))))))), ((d_t_holders 0), .inr (2, [.int ((va_up t_holders_sort 0 (x8.1)) 0), .long (t_holders_tree 0), .int (t_holders_limit 0), .ref (q_t_holders 0), .long ((va_up t_holders_above 0 (x8.2)) 0), .int (t_holders_size 0)])), ((q_t_holders 0), .inl (cI, 20, .inl (a_t_holders 0))), ((d_t_holders 1), .inr (2, [.int ((va_up t_holders_sort 0 (x8.1)) 1), .long (t_holders_tree 1), .int (t_holders_limit 1), .ref (q_t_holders 1), .long ((va_up t_holders_above 0 (x8.2)) 1), .int (t_holders_size 1)])), ((q_t_holders 1), .inl (cI, 20, .inl (a_t_holders 1))), ((d_t_holders 2), .inr (2, [.int ((va_up t_holders_sort 0 (x8.1)) 2), .long (t_holders_tree 2), .int (t_holders_limit 2), .ref (q_t_holders 2), .long ((va_up t_holders_above 0 (x8.2)) 2), .int (t_holders_size 2)])), ((q_t_holders 2), .inl (cI, 20, .inl (a_t_holders 2))), ((d_t_holders 3), .inr (2, [.int ((va_up t_holders_sort 0 (x8.1)) 3), .long (t_holders_tree 3), .int (t_holders_limit 3), .ref (q_t_holders 3), .long ((va_up t_holders_above 0 (x8.2)) 3), .int (t_holders_size 3)])), ((q_t_holders 3), .inl (cI, 20, .inl (a_t_holders 3))), ((d_t_holders 4), .inr (2, [.int ((va_up t_holders_sort 0 (x8.1)) 4), .long (t_holders_tree 4), .int (t_holders_limit 4), .ref (q_t_holders 4), .long ((va_up t_holders_above 0 (x8.2)) 4), .int (t_holders_size 4)])), ((q_t_holders 4), .inl (cI, 20, .inl (a_t_holders 4))), ((d_t_holders 5), .inr (2, [.int ((va_up t_holders_sort 0 (x8.1)) 5), .long (t_holders_tree 5), .int (t_holders_limit 5), .ref (q_t_holders 5), .long ((va_up t_holders_above 0 (x8.2)) 5), .int (t_holders_size 5)])), ((q_t_holders 5), .inl (cI, 20, .inl (a_t_holders 5))), (h_t_desk, .inr (1, [.int t_desk_genus, .int t_desk_size, .ref h_t_desk_powers, .int t_desk_limit, .long t_desk_tree])), (h_t_numbers, .inr (3, [.ref h_t_numbers_keys, .ref h_t_numbers_aboves, .ref h_t_numbers_rounds, .int t_numbers_round, .int (x7.2.2.2.1), .int (x7.2.2.2.2.1), .long (x7.2.2.2.2.2)])), (h_t_desk_powers, .inl (cI, 8, .inl a_t_desk_powers)), (h_t_numbers_keys, .inl (cJ, 1024, .inr (.inl (x7.2.1)))), (h_t_numbers_aboves, .inl (cJ, 1024, .inr (.inl (x7.2.2.1))))] [0, 1, 3, 4, 5, 6, 7, 8, 9, 10, 11, 12, 13, 14, 15, 16, 17, 18] 19 rfl rfl rfl (by decide +kernel) rfl (fun hp8 H locs hP hD hS => ?_)
      refine lv_aload_n hx hb dX8_hold_34 rfl (lv_at hl 1 rfl) ?_
      refine va_get (D := G) (ci := 7) (v := .ref h_t_desk) (C := RX8) (T := TX8) (N := 9) hx hb hts hinX8 hown hK hP 0 rfl rfl 0 (by decide) (hts (.fieldLink RX8 12 "MarkedCurves" "desk" "LMarkedCurves$Desk;") (List.mem_of_getElem? (i := 1) (by decide +kernel))) (fun _ h9 => h9) rfl dX8_hold_35 ?_
      refine va_get (D := G) (ci := 1) (v := .int t_desk_size) (C := RX1) (T := TX1) (N := 5) hx hb hts hinX1 hown hK hP 14 rfl rfl 1 (by decide) (hts (.fieldLink RX8 73 "MarkedCurves$Desk" "size" "I") (List.mem_of_getElem? (i := 2) (by decide +kernel))) (fun _ h9 => h9) rfl dX8_hold_38 ?_
      cases h
      exact k_iret hx hb hr hlocks hP hS rfl dX8_hold_41
    have h := it_n h c4
    refine lv_aload_n hx hb dX8_hold_42 rfl (lv_at hl 0 rfl) ?_
    refine lv_aload_n hx hb dX8_hold_43 rfl (lv_at hl 1 rfl) ?_
    refine va_get (D := G) (ci := 7) (v := .ref h_t_desk) (C := RX8) (T := TX8) (N := 9) hx hb hts hinX8 hown hK hP 0 rfl rfl 0 (by decide) (hts (.fieldLink RX8 12 "MarkedCurves" "desk" "LMarkedCurves$Desk;") (List.mem_of_getElem? (i := 1) (by decide +kernel))) (fun _ h9 => h9) rfl dX8_hold_44 ?_
    refine va_get (D := G) (ci := 1) (v := .long t_desk_tree) (C := RX1) (T := TX1) (N := 5) hx hb hts hinX1 hown hK hP 14 rfl rfl 4 (by decide) (hts (.fieldLink RX8 156 "MarkedCurves$Desk" "tree" "J") (List.mem_of_getElem? (i := 3) (by decide +kernel))) (fun _ h9 => h9) rfl dX8_hold_47 ?_
    refine lv_aload_n hx hb dX8_hold_50 rfl (lv_at hl 1 rfl) ?_
    refine va_get (D := G) (ci := 7) (v := .ref h_t_desk) (C := RX8) (T := TX8) (N := 9) hx hb hts hinX8 hown hK hP 0 rfl rfl 0 (by decide) (hts (.fieldLink RX8 12 "MarkedCurves" "desk" "LMarkedCurves$Desk;") (List.mem_of_getElem? (i := 1) (by decide +kernel))) (fun _ h9 => h9) rfl dX8_hold_51 ?_
    refine va_get (D := G) (ci := 1) (v := .int t_desk_limit) (C := RX1) (T := TX1) (N := 5) hx hb hts hinX1 hown hK hP 14 rfl rfl 3 (by decide) (hts (.fieldLink RX8 153 "MarkedCurves$Desk" "limit" "I") (List.mem_of_getElem? (i := 4) (by decide +kernel))) (fun _ h9 => h9) rfl dX8_hold_54 ?_
    obtain ⟨x5, hx5, h⟩ := bd_e h
    try dsimp only at h
    refine k_Vv (n := 2) (As := [.long t_desk_tree, .int t_desk_limit]) (rest := []) hx hb hml hown hts (c_X2_holdTree l G cI cJ cD cH H.size (d_t_holders 0) (q_t_holders 0) (t_holders_sort 0) (t_holders_tree 0) (t_holders_limit 0) (t_holders_above 0) (t_holders_size 0) t_desk_tree t_desk_limit (x5.1) (x5.2.1) (x5.2.2) hx5) gX8_hold_X2_holdTree rfl rfl rfl (by decide +kernel) ⟨by first | exact Nat.le_of_ble_eq_true rfl | (simp only [headSpec]; omega), by first | exact Nat.le_of_ble_eq_true rfl | (simp only [headSpec]; omega)⟩ hK hP hD hS hA [2] (by decide) rfl rfl (ci := 2) rfl rfl rfl rfl rfl hl.1 (Nat.le_of_ble_eq_true rfl) dX8_hold_57 ⟨Nat.zero_le _, Nat.zero_le _⟩ [(h_t, .inr (7, [.ref h_t_desk, .ref h_t_imageDesk, .ref h_t_deeds, .ref h_t_numbers, .ref h_t_tape, .ref h_t_reader, .ref h_t_speller, .ref h_t_holders, .int t_imageKept])), (h_t_holders, .inl (cH, 6, .inr (.inr (.inr (.inr (fun i => some (d_t_holders i))))))), ((d_t_holders 0), .inr (2, [.int ((va_up t_holders_sort 0 (x5.1)) 0), .long ((va_up t_holders_tree 0 (x5.2.1)) 0), .int ((va_up t_holders_limit 0 (x5.2.2)) 0), .ref (q_t_holders 0), .long (t_holders_above 0), .int (t_holders_size 0)])), ((q_t_holders 0), .inl (cI, 20, .inl (a_t_holders 0))), ((d_t_holders 1), .inr (2, [.int ((va_up t_holders_sort 0 (x5.1)) 1), .long ((va_up t_holders_tree 0 (x5.2.1)) 1), .int ((va_up t_holders_limit 0 (x5.2.2)) 1), .ref (q_t_holders 1), .long (t_holders_above 1), .int (t_holders_size 1)])), ((q_t_holders 1), .inl (cI, 20, .inl (a_t_holders 1))), ((d_t_holders 2), .inr (2, [.int ((va_up t_holders_sort 0 (x5.1)) 2), .long ((va_up t_holders_tree 0 (x5.2.1)) 2), .int ((va_up t_holders_limit 0 (x5.2.2)) 2), .ref (q_t_holders 2), .long (t_holders_above 2), .int (t_holders_size 2)])), ((q_t_holders 2), .inl (cI, 20, .inl (a_t_holders 2))), ((d_t_holders 3), .inr (2, [.int ((va_up t_holders_sort 0 (x5.1)) 3), .long ((va_up t_holders_tree 0 (x5.2.1)) 3), .int ((va_up t_holders_limit 0 (x5.2.2)) 3), .ref (q_t_holders 3), .long (t_holders_above 3), .int (t_holders_size 3)])), ((q_t_holders 3), .inl (cI, 20, .inl (a_t_holders 3))), ((d_t_holders 4), .inr (2, [.int ((va_up t_holders_sort 0 (x5.1)) 4), .long ((va_up t_holders_tree 0 (x5.2.1)) 4), .int ((va_up t_holders_limit 0 (x5.2.2)) 4), .ref (q_t_holders 4), .long (t_holders_above 4), .int (t_holders_size 4)])), ((q_t_holders 4), .inl (cI, 20, .inl (a_t_holders 4))), ((d_t_holders 5), .inr (2, [.int ((va_up t_holders_sort 0 (x5.1)) 5), .long ((va_up t_holders_tree 0 (x5.2.1)) 5), .int ((va_up t_holders_limit 0 (x5.2.2)) 5), .ref (q_t_holders 5), .long (t_holders_above 5), .int (t_holders_size 5)])), ((q_t_holders 5), .inl (cI, 20, .inl (a_t_holders 5))), (h_t_desk, .inr (1, [.int t_desk_genus, .int t_desk_size, .ref h_t_desk_powers, .int t_desk_limit, .long t_desk_tree])), (h_t_numbers, .inr (3, [.ref h_t_numbers_keys, .ref h_t_numbers_aboves, .ref h_t_numbers_rounds, .int t_numbers_round, .int t_numbers_size, .int t_numbers_sum, .long t_numbers_gathered])), (h_t_desk_powers, .inl (cI, 8, .inl a_t_desk_powers)), (h_t_numbers_keys, .inl (cJ, 1024, .inr (.inl a_t_numbers_keys))), (h_t_numbers_aboves, .inl (cJ, 1024, .inr (.inl a_t_numbers_aboves)))] [0, 1, 3, 4, 5, 6, 7, 8, 9, 10, 11, 12, 13, 14, 15, 16, 17, 18] 19 rfl rfl rfl (by decide +kernel) rfl (fun hp5 H locs hP hD hS => ?_)
    refine lv_aload_n hx hb dX8_hold_60 rfl (lv_at hl 1 rfl) ?_
    refine va_get (D := G) (ci := 7) (v := .ref h_t_desk) (C := RX8) (T := TX8) (N := 9) hx hb hts hinX8 hown hK hP 0 rfl rfl 0 (by decide) (hts (.fieldLink RX8 12 "MarkedCurves" "desk" "LMarkedCurves$Desk;") (List.mem_of_getElem? (i := 1) (by decide +kernel))) (fun _ h9 => h9) rfl dX8_hold_61 ?_
    refine va_get (D := G) (ci := 1) (v := .long t_desk_tree) (C := RX1) (T := TX1) (N := 5) hx hb hts hinX1 hown hK hP 14 rfl rfl 4 (by decide) (hts (.fieldLink RX8 156 "MarkedCurves$Desk" "tree" "J") (List.mem_of_getElem? (i := 3) (by decide +kernel))) (fun _ h9 => h9) rfl dX8_hold_64 ?_
    obtain ⟨x6, hx6, h⟩ := bd_e h
    try dsimp only at h
    refine k_SiU (n := 1) (As := [.long t_desk_tree]) (rest := []) hx hb hml hown hts (c_X6_sizeOf l G cI cJ cD cH H.size t_desk_tree x6 hx6) gX8_hold_X6_sizeOf rfl rfl rfl (by decide +kernel) ⟨by first | exact Nat.le_of_ble_eq_true rfl | (simp only [headSpec]; omega), by first | exact Nat.le_of_ble_eq_true rfl | (simp only [headSpec]; omega)⟩ hK hP hD hS hA [] (by decide) rfl rfl rfl hl.1 (Nat.le_of_ble_eq_true rfl) dX8_hold_67 ⟨Nat.zero_le _, Nat.zero_le _⟩ (fun hp6 H locs hP hS => ?_)
    cases h
    exact k_iret hx hb hr hlocks hP hS rfl dX8_hold_70
  · refine k_VqU (n := 1) (As := [.int p0]) (rest := []) hx hb hml hown hts (c_X8_holderAt l G cI cJ cD cH s.heap.size h_t h_t_holders h_t_desk h_t_imageDesk h_t_deeds h_t_numbers h_t_tape h_t_reader h_t_speller d_t_holders q_t_holders a_t_holders t_holders_sort t_holders_tree t_holders_limit t_holders_above t_holders_size t_imageKept p0 1 hx1) gX8_hold_X8_holderAt rfl rfl rfl (by decide +kernel) ⟨by first | exact Nat.le_of_ble_eq_true rfl | (simp only [headSpec]; omega), by first | exact Nat.le_of_ble_eq_true rfl | (simp only [headSpec]; omega)⟩ hK hP hD hS hA [0, 1, 2, 3, 4, 5, 6, 7, 8, 9, 10, 11, 12, 13] (by decide) rfl (ci := 7) rfl rfl rfl rfl rfl hl.1 (Nat.le_of_ble_eq_true rfl) dX8_hold_2 ⟨Nat.zero_le _, Nat.zero_le _⟩ (fun hp1 H locs hP hS => ?_)
    refine W.eq (g2 := F0 m 5 ls [.ref (d_t_holders 1)]) rfl ?_
    have h := it_n h (by decide)
    refine lv_astore_n (lv' := [(3, .ref (d_t_holders 1)), (0, .ref h_t), (1, .int p0), (2, .int p1)]) hx hb dX8_hold_5 rfl hl (by decide) rfl (fun ls hl => ?_)
    refine lv_aload_n hx hb dX8_hold_6 rfl (lv_at hl 0 rfl) ?_
    refine lv_ifnull hx hb dX8_hold_7 ?_
    refine lv_iload_n hx hb dX8_hold_10 rfl (lv_at hl 3 rfl) ?_
    refine lv_if_lt (tgt := 19) hx hb dX8_hold_11 (by decide) (fun c2 => ?_) (fun c2 => ?_)
    · have h := it_p h c2
      refine lv_iconst (v := (-1 : Int32)) hx hb dX8_hold_19 (by decide) ?_
      cases h
      exact k_iret hx hb hr hlocks hP hS rfl dX8_hold_20
    have h := it_n h c2
    refine lv_iload_n hx hb dX8_hold_14 rfl (lv_at hl 3 rfl) ?_
    refine lv_iconst (v := (1 : Int32)) hx hb dX8_hold_15 (by decide) ?_
    refine lv_icmp_le (tgt := 21) hx hb dX8_hold_16 (by decide) (fun c3 => ?_) (fun c3 => ?_)
    rotate_left
    · have h := it_n h c3
      refine lv_iconst (v := (-1 : Int32)) hx hb dX8_hold_19 (by decide) ?_
      cases h
      exact k_iret hx hb hr hlocks hP hS rfl dX8_hold_20
    have h := it_p h c3
    refine lv_iload_n hx hb dX8_hold_21 rfl (lv_at hl 3 rfl) ?_
    refine lv_if_ne (tgt := 42) hx hb dX8_hold_22 (by decide) (fun c4 => ?_) (fun c4 => ?_)
    rotate_left
    · have h := it_p h c4
      refine lv_aload_n hx hb dX8_hold_25 rfl (lv_at hl 0 rfl) ?_
      refine lv_aload_n hx hb dX8_hold_26 rfl (lv_at hl 1 rfl) ?_
      refine lv_iconst (v := (0 : Int32)) hx hb dX8_hold_27 (by decide) ?_
      obtain ⟨x7, hx7, h⟩ := bd_e h
      try dsimp only at h
      refine k_Vl (n := 1) (As := [.int (0 : Int32)]) (rest := [.ref (d_t_holders 1)]) hx hb hml hown hts (c_X8_number l G cI cJ cD cH H.size h_t h_t_numbers h_t_desk h_t_desk_powers h_t_numbers_keys h_t_numbers_aboves h_t_imageDesk h_t_deeds h_t_tape h_t_reader h_t_speller h_t_holders h_t_numbers_rounds t_imageKept t_numbers_round t_numbers_size t_numbers_sum t_numbers_gathered t_desk_genus t_desk_size t_desk_limit t_desk_tree a_t_desk_powers a_t_numbers_keys a_t_numbers_aboves (0 : Int32) (x7.1) (x7.2.1) (x7.2.2.1) (x7.2.2.2.1) (x7.2.2.2.2.1) (x7.2.2.2.2.2) hx7) gX8_hold_X8_number rfl rfl rfl (by decide +kernel) ⟨by first | exact Nat.le_of_ble_eq_true rfl | (simp only [headSpec]; omega), by first | exact Nat.le_of_ble_eq_true rfl | (simp only [headSpec]; omega)⟩ hK hP hD hS hA [0, 15, 14, 16, 17, 18] (by decide) rfl rfl (ci := 7) rfl rfl rfl rfl rfl hl.1 (Nat.le_of_ble_eq_true rfl) dX8_hold_28 ⟨Nat.zero_le _, Nat.zero_le _⟩ [(h_t, .inr (7, [.ref h_t_desk, .ref h_t_imageDesk, .ref h_t_deeds, .ref h_t_numbers, .ref h_t_tape, .ref h_t_reader, .ref h_t_speller, .ref h_t_holders, .int t_imageKept])), (h_t_holders, .inl (cH, 6, .inr (.inr (.inr (.inr (fun i => some (d_t_holders i))))))), ((d_t_holders 0), .inr (2, [.int (t_holders_sort 0), .long (t_holders_tree 0), .int (t_holders_limit 0), .ref (q_t_holders 0), .long (t_holders_above 0), .int (t_holders_size 0)])), ((q_t_holders 0), .inl (cI, 20, .inl (a_t_holders 0))), ((d_t_holders 1), .inr (2, [.int (t_holders_sort 1), .long (t_holders_tree 1), .int (t_holders_limit 1), .ref (q_t_holders 1), .long (t_holders_above 1), .int (t_holders_size 1)])), ((q_t_holders 1), .inl (cI, 20, .inl (a_t_holders 1))), ((d_t_holders 2), .inr (2, [.int (t_holders_sort 2), .long (t_holders_tree 2), .int (t_holders_limit 2), .ref (q_t_holders 2), .long (t_holders_above 2), .int (t_holders_size 2)])), ((q_t_holders 2), .inl (cI, 20, .inl (a_t_holders 2))), ((d_t_holders 3), .inr (2, [.int (t_holders_sort 3), .long (t_holders_tree 3), .int (t_holders_limit 3), .ref (q_t_holders 3), .long (t_holders_above 3), .int (t_holders_size 3)])), ((q_t_holders 3), .inl (cI, 20, .inl (a_t_holders 3))), ((d_t_holders 4), .inr (2, [.int (t_holders_sort 4), .long (t_holders_tree 4), .int (t_holders_limit 4), .ref (q_t_holders 4), .long (t_holders_above 4), .int (t_holders_size 4)])), ((q_t_holders 4), .inl (cI, 20, .inl (a_t_holders 4))), ((d_t_holders 5), .inr (2, [.int (t_holders_sort 5), .long (t_holders_tree 5), .int (t_holders_limit 5), .ref (q_t_holders 5), .long (t_holders_above 5), .int (t_holders_size 5)])), ((q_t_holders 5), .inl (cI, 20, .inl (a_t_holders 5))), (h_t_desk, .inr (1, [.int t_desk_genus, .int t_desk_size, .ref h_t_desk_powers, .int t_desk_limit, .long t_desk_tree])), (h_t_numbers, .inr (3, [.ref h_t_numbers_keys, .ref h_t_numbers_aboves, .ref h_t_numbers_rounds, .int t_numbers_round, .int (x7.2.2.2.1), .int (x7.2.2.2.2.1), .long (x7.2.2.2.2.2)])), (h_t_desk_powers, .inl (cI, 8, .inl a_t_desk_powers)), (h_t_numbers_keys, .inl (cJ, 1024, .inr (.inl (x7.2.1)))), (h_t_numbers_aboves, .inl (cJ, 1024, .inr (.inl (x7.2.2.1))))] [1, 2, 3, 4, 5, 6, 7, 8, 9, 10, 11, 12, 13] 19 rfl rfl rfl (by decide +kernel) rfl (fun hp7 H locs hP hD hS => ?_)
      obtain ⟨x8, hx8, h⟩ := bd_e h
      try dsimp only at h
      refine k_Vv (n := 1) (As := [.long (x7.1)]) (rest := []) hx hb hml hown hts (c_X2_holdNumber l G cI cJ cD cH H.size (d_t_holders 1) (q_t_holders 1) (t_holders_sort 1) (t_holders_tree 1) (t_holders_limit 1) (t_holders_above 1) (t_holders_size 1) (x7.1) (x8.1) (x8.2) hx8) gX8_hold_X2_holdNumber rfl rfl rfl (by decide +kernel) ⟨by first | exact Nat.le_of_ble_eq_true rfl | (simp only [headSpec]; omega), by first | exact Nat.le_of_ble_eq_true rfl | (simp only [headSpec]; omega)⟩ hK hP hD hS hA [4] (by decide) rfl rfl (ci := 2) rfl rfl rfl rfl rfl hl.1 (Nat.le_of_ble_eq_true rfl) dX8_hold_31 ⟨Nat.zero_le _, Nat.zero_le _⟩ [(h_t, .inr (7, [.ref h_t_desk, .ref h_t_imageDesk, .ref h_t_deeds, .ref h_t_numbers, .ref h_t_tape, .ref h_t_reader, .ref h_t_speller, .ref h_t_holders, .int t_imageKept])), (h_t_holders, .inl (cH, 6, .inr (.inr (.inr (.inr (fun i => some (d_t_holders i))))))), ((d_t_holders 0), .inr (2, [.int ((va_up t_holders_sort 1 (x8.1)) 0), .long (t_holders_tree 0), .int (t_holders_limit 0), .ref (q_t_holders 0), .long ((va_up t_holders_above 1 (x8.2)) 0), .int (t_holders_size 0)])), ((q_t_holders 0), .inl (cI, 20, .inl (a_t_holders 0))), ((d_t_holders 1), .inr (2, [.int ((va_up t_holders_sort 1 (x8.1)) 1), .long (t_holders_tree 1), .int (t_holders_limit 1), .ref (q_t_holders 1), .long ((va_up t_holders_above 1 (x8.2)) 1), .int (t_holders_size 1)])), ((q_t_holders 1), .inl (cI, 20, .inl (a_t_holders 1))), ((d_t_holders 2), .inr (2, [.int ((va_up t_holders_sort 1 (x8.1)) 2), .long (t_holders_tree 2), .int (t_holders_limit 2), .ref (q_t_holders 2), .long ((va_up t_holders_above 1 (x8.2)) 2), .int (t_holders_size 2)])), ((q_t_holders 2), .inl (cI, 20, .inl (a_t_holders 2))), ((d_t_holders 3), .inr (2, [.int ((va_up t_holders_sort 1 (x8.1)) 3), .long (t_holders_tree 3), .int (t_holders_limit 3), .ref (q_t_holders 3), .long ((va_up t_holders_above 1 (x8.2)) 3), .int (t_holders_size 3)])), ((q_t_holders 3), .inl (cI, 20, .inl (a_t_holders 3))), ((d_t_holders 4), .inr (2, [.int ((va_up t_holders_sort 1 (x8.1)) 4), .long (t_holders_tree 4), .int (t_holders_limit 4), .ref (q_t_holders 4), .long ((va_up t_holders_above 1 (x8.2)) 4), .int (t_holders_size 4)])), ((q_t_holders 4), .inl (cI, 20, .inl (a_t_holders 4))), ((d_t_holders 5), .inr (2, [.int ((va_up t_holders_sort 1 (x8.1)) 5), .long (t_holders_tree 5), .int (t_holders_limit 5), .ref (q_t_holders 5), .long ((va_up t_holders_above 1 (x8.2)) 5), .int (t_holders_size 5)])), ((q_t_holders 5), .inl (cI, 20, .inl (a_t_holders 5))), (h_t_desk, .inr (1, [.int t_desk_genus, .int t_desk_size, .ref h_t_desk_powers, .int t_desk_limit, .long t_desk_tree])), (h_t_numbers, .inr (3, [.ref h_t_numbers_keys, .ref h_t_numbers_aboves, .ref h_t_numbers_rounds, .int t_numbers_round, .int (x7.2.2.2.1), .int (x7.2.2.2.2.1), .long (x7.2.2.2.2.2)])), (h_t_desk_powers, .inl (cI, 8, .inl a_t_desk_powers)), (h_t_numbers_keys, .inl (cJ, 1024, .inr (.inl (x7.2.1)))), (h_t_numbers_aboves, .inl (cJ, 1024, .inr (.inl (x7.2.2.1))))] [0, 1, 2, 3, 5, 6, 7, 8, 9, 10, 11, 12, 13, 14, 15, 16, 17, 18] 19 rfl rfl rfl (by decide +kernel) rfl (fun hp8 H locs hP hD hS => ?_)
      refine lv_aload_n hx hb dX8_hold_34 rfl (lv_at hl 1 rfl) ?_
      refine va_get (D := G) (ci := 7) (v := .ref h_t_desk) (C := RX8) (T := TX8) (N := 9) hx hb hts hinX8 hown hK hP 0 rfl rfl 0 (by decide) (hts (.fieldLink RX8 12 "MarkedCurves" "desk" "LMarkedCurves$Desk;") (List.mem_of_getElem? (i := 1) (by decide +kernel))) (fun _ h9 => h9) rfl dX8_hold_35 ?_
      refine va_get (D := G) (ci := 1) (v := .int t_desk_size) (C := RX1) (T := TX1) (N := 5) hx hb hts hinX1 hown hK hP 14 rfl rfl 1 (by decide) (hts (.fieldLink RX8 73 "MarkedCurves$Desk" "size" "I") (List.mem_of_getElem? (i := 2) (by decide +kernel))) (fun _ h9 => h9) rfl dX8_hold_38 ?_
      cases h
      exact k_iret hx hb hr hlocks hP hS rfl dX8_hold_41
    have h := it_n h c4
    refine lv_aload_n hx hb dX8_hold_42 rfl (lv_at hl 0 rfl) ?_
    refine lv_aload_n hx hb dX8_hold_43 rfl (lv_at hl 1 rfl) ?_
    refine va_get (D := G) (ci := 7) (v := .ref h_t_desk) (C := RX8) (T := TX8) (N := 9) hx hb hts hinX8 hown hK hP 0 rfl rfl 0 (by decide) (hts (.fieldLink RX8 12 "MarkedCurves" "desk" "LMarkedCurves$Desk;") (List.mem_of_getElem? (i := 1) (by decide +kernel))) (fun _ h9 => h9) rfl dX8_hold_44 ?_
    refine va_get (D := G) (ci := 1) (v := .long t_desk_tree) (C := RX1) (T := TX1) (N := 5) hx hb hts hinX1 hown hK hP 14 rfl rfl 4 (by decide) (hts (.fieldLink RX8 156 "MarkedCurves$Desk" "tree" "J") (List.mem_of_getElem? (i := 3) (by decide +kernel))) (fun _ h9 => h9) rfl dX8_hold_47 ?_
    refine lv_aload_n hx hb dX8_hold_50 rfl (lv_at hl 1 rfl) ?_
    refine va_get (D := G) (ci := 7) (v := .ref h_t_desk) (C := RX8) (T := TX8) (N := 9) hx hb hts hinX8 hown hK hP 0 rfl rfl 0 (by decide) (hts (.fieldLink RX8 12 "MarkedCurves" "desk" "LMarkedCurves$Desk;") (List.mem_of_getElem? (i := 1) (by decide +kernel))) (fun _ h9 => h9) rfl dX8_hold_51 ?_
    refine va_get (D := G) (ci := 1) (v := .int t_desk_limit) (C := RX1) (T := TX1) (N := 5) hx hb hts hinX1 hown hK hP 14 rfl rfl 3 (by decide) (hts (.fieldLink RX8 153 "MarkedCurves$Desk" "limit" "I") (List.mem_of_getElem? (i := 4) (by decide +kernel))) (fun _ h9 => h9) rfl dX8_hold_54 ?_
    obtain ⟨x5, hx5, h⟩ := bd_e h
    try dsimp only at h
    refine k_Vv (n := 2) (As := [.long t_desk_tree, .int t_desk_limit]) (rest := []) hx hb hml hown hts (c_X2_holdTree l G cI cJ cD cH H.size (d_t_holders 1) (q_t_holders 1) (t_holders_sort 1) (t_holders_tree 1) (t_holders_limit 1) (t_holders_above 1) (t_holders_size 1) t_desk_tree t_desk_limit (x5.1) (x5.2.1) (x5.2.2) hx5) gX8_hold_X2_holdTree rfl rfl rfl (by decide +kernel) ⟨by first | exact Nat.le_of_ble_eq_true rfl | (simp only [headSpec]; omega), by first | exact Nat.le_of_ble_eq_true rfl | (simp only [headSpec]; omega)⟩ hK hP hD hS hA [4] (by decide) rfl rfl (ci := 2) rfl rfl rfl rfl rfl hl.1 (Nat.le_of_ble_eq_true rfl) dX8_hold_57 ⟨Nat.zero_le _, Nat.zero_le _⟩ [(h_t, .inr (7, [.ref h_t_desk, .ref h_t_imageDesk, .ref h_t_deeds, .ref h_t_numbers, .ref h_t_tape, .ref h_t_reader, .ref h_t_speller, .ref h_t_holders, .int t_imageKept])), (h_t_holders, .inl (cH, 6, .inr (.inr (.inr (.inr (fun i => some (d_t_holders i))))))), ((d_t_holders 0), .inr (2, [.int ((va_up t_holders_sort 1 (x5.1)) 0), .long ((va_up t_holders_tree 1 (x5.2.1)) 0), .int ((va_up t_holders_limit 1 (x5.2.2)) 0), .ref (q_t_holders 0), .long (t_holders_above 0), .int (t_holders_size 0)])), ((q_t_holders 0), .inl (cI, 20, .inl (a_t_holders 0))), ((d_t_holders 1), .inr (2, [.int ((va_up t_holders_sort 1 (x5.1)) 1), .long ((va_up t_holders_tree 1 (x5.2.1)) 1), .int ((va_up t_holders_limit 1 (x5.2.2)) 1), .ref (q_t_holders 1), .long (t_holders_above 1), .int (t_holders_size 1)])), ((q_t_holders 1), .inl (cI, 20, .inl (a_t_holders 1))), ((d_t_holders 2), .inr (2, [.int ((va_up t_holders_sort 1 (x5.1)) 2), .long ((va_up t_holders_tree 1 (x5.2.1)) 2), .int ((va_up t_holders_limit 1 (x5.2.2)) 2), .ref (q_t_holders 2), .long (t_holders_above 2), .int (t_holders_size 2)])), ((q_t_holders 2), .inl (cI, 20, .inl (a_t_holders 2))), ((d_t_holders 3), .inr (2, [.int ((va_up t_holders_sort 1 (x5.1)) 3), .long ((va_up t_holders_tree 1 (x5.2.1)) 3), .int ((va_up t_holders_limit 1 (x5.2.2)) 3), .ref (q_t_holders 3), .long (t_holders_above 3), .int (t_holders_size 3)])), ((q_t_holders 3), .inl (cI, 20, .inl (a_t_holders 3))), ((d_t_holders 4), .inr (2, [.int ((va_up t_holders_sort 1 (x5.1)) 4), .long ((va_up t_holders_tree 1 (x5.2.1)) 4), .int ((va_up t_holders_limit 1 (x5.2.2)) 4), .ref (q_t_holders 4), .long (t_holders_above 4), .int (t_holders_size 4)])), ((q_t_holders 4), .inl (cI, 20, .inl (a_t_holders 4))), ((d_t_holders 5), .inr (2, [.int ((va_up t_holders_sort 1 (x5.1)) 5), .long ((va_up t_holders_tree 1 (x5.2.1)) 5), .int ((va_up t_holders_limit 1 (x5.2.2)) 5), .ref (q_t_holders 5), .long (t_holders_above 5), .int (t_holders_size 5)])), ((q_t_holders 5), .inl (cI, 20, .inl (a_t_holders 5))), (h_t_desk, .inr (1, [.int t_desk_genus, .int t_desk_size, .ref h_t_desk_powers, .int t_desk_limit, .long t_desk_tree])), (h_t_numbers, .inr (3, [.ref h_t_numbers_keys, .ref h_t_numbers_aboves, .ref h_t_numbers_rounds, .int t_numbers_round, .int t_numbers_size, .int t_numbers_sum, .long t_numbers_gathered])), (h_t_desk_powers, .inl (cI, 8, .inl a_t_desk_powers)), (h_t_numbers_keys, .inl (cJ, 1024, .inr (.inl a_t_numbers_keys))), (h_t_numbers_aboves, .inl (cJ, 1024, .inr (.inl a_t_numbers_aboves)))] [0, 1, 2, 3, 5, 6, 7, 8, 9, 10, 11, 12, 13, 14, 15, 16, 17, 18] 19 rfl rfl rfl (by decide +kernel) rfl (fun hp5 H locs hP hD hS => ?_)
    refine lv_aload_n hx hb dX8_hold_60 rfl (lv_at hl 1 rfl) ?_
    refine va_get (D := G) (ci := 7) (v := .ref h_t_desk) (C := RX8) (T := TX8) (N := 9) hx hb hts hinX8 hown hK hP 0 rfl rfl 0 (by decide) (hts (.fieldLink RX8 12 "MarkedCurves" "desk" "LMarkedCurves$Desk;") (List.mem_of_getElem? (i := 1) (by decide +kernel))) (fun _ h9 => h9) rfl dX8_hold_61 ?_
    refine va_get (D := G) (ci := 1) (v := .long t_desk_tree) (C := RX1) (T := TX1) (N := 5) hx hb hts hinX1 hown hK hP 14 rfl rfl 4 (by decide) (hts (.fieldLink RX8 156 "MarkedCurves$Desk" "tree" "J") (List.mem_of_getElem? (i := 3) (by decide +kernel))) (fun _ h9 => h9) rfl dX8_hold_64 ?_
    obtain ⟨x6, hx6, h⟩ := bd_e h
    try dsimp only at h
    refine k_SiU (n := 1) (As := [.long t_desk_tree]) (rest := []) hx hb hml hown hts (c_X6_sizeOf l G cI cJ cD cH H.size t_desk_tree x6 hx6) gX8_hold_X6_sizeOf rfl rfl rfl (by decide +kernel) ⟨by first | exact Nat.le_of_ble_eq_true rfl | (simp only [headSpec]; omega), by first | exact Nat.le_of_ble_eq_true rfl | (simp only [headSpec]; omega)⟩ hK hP hD hS hA [] (by decide) rfl rfl rfl hl.1 (Nat.le_of_ble_eq_true rfl) dX8_hold_67 ⟨Nat.zero_le _, Nat.zero_le _⟩ (fun hp6 H locs hP hS => ?_)
    cases h
    exact k_iret hx hb hr hlocks hP hS rfl dX8_hold_70
  · refine k_VqU (n := 1) (As := [.int p0]) (rest := []) hx hb hml hown hts (c_X8_holderAt l G cI cJ cD cH s.heap.size h_t h_t_holders h_t_desk h_t_imageDesk h_t_deeds h_t_numbers h_t_tape h_t_reader h_t_speller d_t_holders q_t_holders a_t_holders t_holders_sort t_holders_tree t_holders_limit t_holders_above t_holders_size t_imageKept p0 2 hx1) gX8_hold_X8_holderAt rfl rfl rfl (by decide +kernel) ⟨by first | exact Nat.le_of_ble_eq_true rfl | (simp only [headSpec]; omega), by first | exact Nat.le_of_ble_eq_true rfl | (simp only [headSpec]; omega)⟩ hK hP hD hS hA [0, 1, 2, 3, 4, 5, 6, 7, 8, 9, 10, 11, 12, 13] (by decide) rfl (ci := 7) rfl rfl rfl rfl rfl hl.1 (Nat.le_of_ble_eq_true rfl) dX8_hold_2 ⟨Nat.zero_le _, Nat.zero_le _⟩ (fun hp1 H locs hP hS => ?_)
    refine W.eq (g2 := F0 m 5 ls [.ref (d_t_holders 2)]) rfl ?_
    have h := it_n h (by decide)
    refine lv_astore_n (lv' := [(3, .ref (d_t_holders 2)), (0, .ref h_t), (1, .int p0), (2, .int p1)]) hx hb dX8_hold_5 rfl hl (by decide) rfl (fun ls hl => ?_)
    refine lv_aload_n hx hb dX8_hold_6 rfl (lv_at hl 0 rfl) ?_
    refine lv_ifnull hx hb dX8_hold_7 ?_
    refine lv_iload_n hx hb dX8_hold_10 rfl (lv_at hl 3 rfl) ?_
    refine lv_if_lt (tgt := 19) hx hb dX8_hold_11 (by decide) (fun c2 => ?_) (fun c2 => ?_)
    · have h := it_p h c2
      refine lv_iconst (v := (-1 : Int32)) hx hb dX8_hold_19 (by decide) ?_
      cases h
      exact k_iret hx hb hr hlocks hP hS rfl dX8_hold_20
    have h := it_n h c2
    refine lv_iload_n hx hb dX8_hold_14 rfl (lv_at hl 3 rfl) ?_
    refine lv_iconst (v := (1 : Int32)) hx hb dX8_hold_15 (by decide) ?_
    refine lv_icmp_le (tgt := 21) hx hb dX8_hold_16 (by decide) (fun c3 => ?_) (fun c3 => ?_)
    rotate_left
    · have h := it_n h c3
      refine lv_iconst (v := (-1 : Int32)) hx hb dX8_hold_19 (by decide) ?_
      cases h
      exact k_iret hx hb hr hlocks hP hS rfl dX8_hold_20
    have h := it_p h c3
    refine lv_iload_n hx hb dX8_hold_21 rfl (lv_at hl 3 rfl) ?_
    refine lv_if_ne (tgt := 42) hx hb dX8_hold_22 (by decide) (fun c4 => ?_) (fun c4 => ?_)
    rotate_left
    · have h := it_p h c4
      refine lv_aload_n hx hb dX8_hold_25 rfl (lv_at hl 0 rfl) ?_
      refine lv_aload_n hx hb dX8_hold_26 rfl (lv_at hl 1 rfl) ?_
      refine lv_iconst (v := (0 : Int32)) hx hb dX8_hold_27 (by decide) ?_
      obtain ⟨x7, hx7, h⟩ := bd_e h
      try dsimp only at h
      refine k_Vl (n := 1) (As := [.int (0 : Int32)]) (rest := [.ref (d_t_holders 2)]) hx hb hml hown hts (c_X8_number l G cI cJ cD cH H.size h_t h_t_numbers h_t_desk h_t_desk_powers h_t_numbers_keys h_t_numbers_aboves h_t_imageDesk h_t_deeds h_t_tape h_t_reader h_t_speller h_t_holders h_t_numbers_rounds t_imageKept t_numbers_round t_numbers_size t_numbers_sum t_numbers_gathered t_desk_genus t_desk_size t_desk_limit t_desk_tree a_t_desk_powers a_t_numbers_keys a_t_numbers_aboves (0 : Int32) (x7.1) (x7.2.1) (x7.2.2.1) (x7.2.2.2.1) (x7.2.2.2.2.1) (x7.2.2.2.2.2) hx7) gX8_hold_X8_number rfl rfl rfl (by decide +kernel) ⟨by first | exact Nat.le_of_ble_eq_true rfl | (simp only [headSpec]; omega), by first | exact Nat.le_of_ble_eq_true rfl | (simp only [headSpec]; omega)⟩ hK hP hD hS hA [0, 15, 14, 16, 17, 18] (by decide) rfl rfl (ci := 7) rfl rfl rfl rfl rfl hl.1 (Nat.le_of_ble_eq_true rfl) dX8_hold_28 ⟨Nat.zero_le _, Nat.zero_le _⟩ [(h_t, .inr (7, [.ref h_t_desk, .ref h_t_imageDesk, .ref h_t_deeds, .ref h_t_numbers, .ref h_t_tape, .ref h_t_reader, .ref h_t_speller, .ref h_t_holders, .int t_imageKept])), (h_t_holders, .inl (cH, 6, .inr (.inr (.inr (.inr (fun i => some (d_t_holders i))))))), ((d_t_holders 0), .inr (2, [.int (t_holders_sort 0), .long (t_holders_tree 0), .int (t_holders_limit 0), .ref (q_t_holders 0), .long (t_holders_above 0), .int (t_holders_size 0)])), ((q_t_holders 0), .inl (cI, 20, .inl (a_t_holders 0))), ((d_t_holders 1), .inr (2, [.int (t_holders_sort 1), .long (t_holders_tree 1), .int (t_holders_limit 1), .ref (q_t_holders 1), .long (t_holders_above 1), .int (t_holders_size 1)])), ((q_t_holders 1), .inl (cI, 20, .inl (a_t_holders 1))), ((d_t_holders 2), .inr (2, [.int (t_holders_sort 2), .long (t_holders_tree 2), .int (t_holders_limit 2), .ref (q_t_holders 2), .long (t_holders_above 2), .int (t_holders_size 2)])), ((q_t_holders 2), .inl (cI, 20, .inl (a_t_holders 2))), ((d_t_holders 3), .inr (2, [.int (t_holders_sort 3), .long (t_holders_tree 3), .int (t_holders_limit 3), .ref (q_t_holders 3), .long (t_holders_above 3), .int (t_holders_size 3)])), ((q_t_holders 3), .inl (cI, 20, .inl (a_t_holders 3))), ((d_t_holders 4), .inr (2, [.int (t_holders_sort 4), .long (t_holders_tree 4), .int (t_holders_limit 4), .ref (q_t_holders 4), .long (t_holders_above 4), .int (t_holders_size 4)])), ((q_t_holders 4), .inl (cI, 20, .inl (a_t_holders 4))), ((d_t_holders 5), .inr (2, [.int (t_holders_sort 5), .long (t_holders_tree 5), .int (t_holders_limit 5), .ref (q_t_holders 5), .long (t_holders_above 5), .int (t_holders_size 5)])), ((q_t_holders 5), .inl (cI, 20, .inl (a_t_holders 5))), (h_t_desk, .inr (1, [.int t_desk_genus, .int t_desk_size, .ref h_t_desk_powers, .int t_desk_limit, .long t_desk_tree])), (h_t_numbers, .inr (3, [.ref h_t_numbers_keys, .ref h_t_numbers_aboves, .ref h_t_numbers_rounds, .int t_numbers_round, .int (x7.2.2.2.1), .int (x7.2.2.2.2.1), .long (x7.2.2.2.2.2)])), (h_t_desk_powers, .inl (cI, 8, .inl a_t_desk_powers)), (h_t_numbers_keys, .inl (cJ, 1024, .inr (.inl (x7.2.1)))), (h_t_numbers_aboves, .inl (cJ, 1024, .inr (.inl (x7.2.2.1))))] [1, 2, 3, 4, 5, 6, 7, 8, 9, 10, 11, 12, 13] 19 rfl rfl rfl (by decide +kernel) rfl (fun hp7 H locs hP hD hS => ?_)
      obtain ⟨x8, hx8, h⟩ := bd_e h
      try dsimp only at h
      refine k_Vv (n := 1) (As := [.long (x7.1)]) (rest := []) hx hb hml hown hts (c_X2_holdNumber l G cI cJ cD cH H.size (d_t_holders 2) (q_t_holders 2) (t_holders_sort 2) (t_holders_tree 2) (t_holders_limit 2) (t_holders_above 2) (t_holders_size 2) (x7.1) (x8.1) (x8.2) hx8) gX8_hold_X2_holdNumber rfl rfl rfl (by decide +kernel) ⟨by first | exact Nat.le_of_ble_eq_true rfl | (simp only [headSpec]; omega), by first | exact Nat.le_of_ble_eq_true rfl | (simp only [headSpec]; omega)⟩ hK hP hD hS hA [6] (by decide) rfl rfl (ci := 2) rfl rfl rfl rfl rfl hl.1 (Nat.le_of_ble_eq_true rfl) dX8_hold_31 ⟨Nat.zero_le _, Nat.zero_le _⟩ [(h_t, .inr (7, [.ref h_t_desk, .ref h_t_imageDesk, .ref h_t_deeds, .ref h_t_numbers, .ref h_t_tape, .ref h_t_reader, .ref h_t_speller, .ref h_t_holders, .int t_imageKept])), (h_t_holders, .inl (cH, 6, .inr (.inr (.inr (.inr (fun i => some (d_t_holders i))))))), ((d_t_holders 0), .inr (2, [.int ((va_up t_holders_sort 2 (x8.1)) 0), .long (t_holders_tree 0), .int (t_holders_limit 0), .ref (q_t_holders 0), .long ((va_up t_holders_above 2 (x8.2)) 0), .int (t_holders_size 0)])), ((q_t_holders 0), .inl (cI, 20, .inl (a_t_holders 0))), ((d_t_holders 1), .inr (2, [.int ((va_up t_holders_sort 2 (x8.1)) 1), .long (t_holders_tree 1), .int (t_holders_limit 1), .ref (q_t_holders 1), .long ((va_up t_holders_above 2 (x8.2)) 1), .int (t_holders_size 1)])), ((q_t_holders 1), .inl (cI, 20, .inl (a_t_holders 1))), ((d_t_holders 2), .inr (2, [.int ((va_up t_holders_sort 2 (x8.1)) 2), .long (t_holders_tree 2), .int (t_holders_limit 2), .ref (q_t_holders 2), .long ((va_up t_holders_above 2 (x8.2)) 2), .int (t_holders_size 2)])), ((q_t_holders 2), .inl (cI, 20, .inl (a_t_holders 2))), ((d_t_holders 3), .inr (2, [.int ((va_up t_holders_sort 2 (x8.1)) 3), .long (t_holders_tree 3), .int (t_holders_limit 3), .ref (q_t_holders 3), .long ((va_up t_holders_above 2 (x8.2)) 3), .int (t_holders_size 3)])), ((q_t_holders 3), .inl (cI, 20, .inl (a_t_holders 3))), ((d_t_holders 4), .inr (2, [.int ((va_up t_holders_sort 2 (x8.1)) 4), .long (t_holders_tree 4), .int (t_holders_limit 4), .ref (q_t_holders 4), .long ((va_up t_holders_above 2 (x8.2)) 4), .int (t_holders_size 4)])), ((q_t_holders 4), .inl (cI, 20, .inl (a_t_holders 4))), ((d_t_holders 5), .inr (2, [.int ((va_up t_holders_sort 2 (x8.1)) 5), .long (t_holders_tree 5), .int (t_holders_limit 5), .ref (q_t_holders 5), .long ((va_up t_holders_above 2 (x8.2)) 5), .int (t_holders_size 5)])), ((q_t_holders 5), .inl (cI, 20, .inl (a_t_holders 5))), (h_t_desk, .inr (1, [.int t_desk_genus, .int t_desk_size, .ref h_t_desk_powers, .int t_desk_limit, .long t_desk_tree])), (h_t_numbers, .inr (3, [.ref h_t_numbers_keys, .ref h_t_numbers_aboves, .ref h_t_numbers_rounds, .int t_numbers_round, .int (x7.2.2.2.1), .int (x7.2.2.2.2.1), .long (x7.2.2.2.2.2)])), (h_t_desk_powers, .inl (cI, 8, .inl a_t_desk_powers)), (h_t_numbers_keys, .inl (cJ, 1024, .inr (.inl (x7.2.1)))), (h_t_numbers_aboves, .inl (cJ, 1024, .inr (.inl (x7.2.2.1))))] [0, 1, 2, 3, 4, 5, 7, 8, 9, 10, 11, 12, 13, 14, 15, 16, 17, 18] 19 rfl rfl rfl (by decide +kernel) rfl (fun hp8 H locs hP hD hS => ?_)
      refine lv_aload_n hx hb dX8_hold_34 rfl (lv_at hl 1 rfl) ?_
      refine va_get (D := G) (ci := 7) (v := .ref h_t_desk) (C := RX8) (T := TX8) (N := 9) hx hb hts hinX8 hown hK hP 0 rfl rfl 0 (by decide) (hts (.fieldLink RX8 12 "MarkedCurves" "desk" "LMarkedCurves$Desk;") (List.mem_of_getElem? (i := 1) (by decide +kernel))) (fun _ h9 => h9) rfl dX8_hold_35 ?_
      refine va_get (D := G) (ci := 1) (v := .int t_desk_size) (C := RX1) (T := TX1) (N := 5) hx hb hts hinX1 hown hK hP 14 rfl rfl 1 (by decide) (hts (.fieldLink RX8 73 "MarkedCurves$Desk" "size" "I") (List.mem_of_getElem? (i := 2) (by decide +kernel))) (fun _ h9 => h9) rfl dX8_hold_38 ?_
      cases h
      exact k_iret hx hb hr hlocks hP hS rfl dX8_hold_41
    have h := it_n h c4
    refine lv_aload_n hx hb dX8_hold_42 rfl (lv_at hl 0 rfl) ?_
    refine lv_aload_n hx hb dX8_hold_43 rfl (lv_at hl 1 rfl) ?_
    refine va_get (D := G) (ci := 7) (v := .ref h_t_desk) (C := RX8) (T := TX8) (N := 9) hx hb hts hinX8 hown hK hP 0 rfl rfl 0 (by decide) (hts (.fieldLink RX8 12 "MarkedCurves" "desk" "LMarkedCurves$Desk;") (List.mem_of_getElem? (i := 1) (by decide +kernel))) (fun _ h9 => h9) rfl dX8_hold_44 ?_
    refine va_get (D := G) (ci := 1) (v := .long t_desk_tree) (C := RX1) (T := TX1) (N := 5) hx hb hts hinX1 hown hK hP 14 rfl rfl 4 (by decide) (hts (.fieldLink RX8 156 "MarkedCurves$Desk" "tree" "J") (List.mem_of_getElem? (i := 3) (by decide +kernel))) (fun _ h9 => h9) rfl dX8_hold_47 ?_
    refine lv_aload_n hx hb dX8_hold_50 rfl (lv_at hl 1 rfl) ?_
    refine va_get (D := G) (ci := 7) (v := .ref h_t_desk) (C := RX8) (T := TX8) (N := 9) hx hb hts hinX8 hown hK hP 0 rfl rfl 0 (by decide) (hts (.fieldLink RX8 12 "MarkedCurves" "desk" "LMarkedCurves$Desk;") (List.mem_of_getElem? (i := 1) (by decide +kernel))) (fun _ h9 => h9) rfl dX8_hold_51 ?_
    refine va_get (D := G) (ci := 1) (v := .int t_desk_limit) (C := RX1) (T := TX1) (N := 5) hx hb hts hinX1 hown hK hP 14 rfl rfl 3 (by decide) (hts (.fieldLink RX8 153 "MarkedCurves$Desk" "limit" "I") (List.mem_of_getElem? (i := 4) (by decide +kernel))) (fun _ h9 => h9) rfl dX8_hold_54 ?_
    obtain ⟨x5, hx5, h⟩ := bd_e h
    try dsimp only at h
    refine k_Vv (n := 2) (As := [.long t_desk_tree, .int t_desk_limit]) (rest := []) hx hb hml hown hts (c_X2_holdTree l G cI cJ cD cH H.size (d_t_holders 2) (q_t_holders 2) (t_holders_sort 2) (t_holders_tree 2) (t_holders_limit 2) (t_holders_above 2) (t_holders_size 2) t_desk_tree t_desk_limit (x5.1) (x5.2.1) (x5.2.2) hx5) gX8_hold_X2_holdTree rfl rfl rfl (by decide +kernel) ⟨by first | exact Nat.le_of_ble_eq_true rfl | (simp only [headSpec]; omega), by first | exact Nat.le_of_ble_eq_true rfl | (simp only [headSpec]; omega)⟩ hK hP hD hS hA [6] (by decide) rfl rfl (ci := 2) rfl rfl rfl rfl rfl hl.1 (Nat.le_of_ble_eq_true rfl) dX8_hold_57 ⟨Nat.zero_le _, Nat.zero_le _⟩ [(h_t, .inr (7, [.ref h_t_desk, .ref h_t_imageDesk, .ref h_t_deeds, .ref h_t_numbers, .ref h_t_tape, .ref h_t_reader, .ref h_t_speller, .ref h_t_holders, .int t_imageKept])), (h_t_holders, .inl (cH, 6, .inr (.inr (.inr (.inr (fun i => some (d_t_holders i))))))), ((d_t_holders 0), .inr (2, [.int ((va_up t_holders_sort 2 (x5.1)) 0), .long ((va_up t_holders_tree 2 (x5.2.1)) 0), .int ((va_up t_holders_limit 2 (x5.2.2)) 0), .ref (q_t_holders 0), .long (t_holders_above 0), .int (t_holders_size 0)])), ((q_t_holders 0), .inl (cI, 20, .inl (a_t_holders 0))), ((d_t_holders 1), .inr (2, [.int ((va_up t_holders_sort 2 (x5.1)) 1), .long ((va_up t_holders_tree 2 (x5.2.1)) 1), .int ((va_up t_holders_limit 2 (x5.2.2)) 1), .ref (q_t_holders 1), .long (t_holders_above 1), .int (t_holders_size 1)])), ((q_t_holders 1), .inl (cI, 20, .inl (a_t_holders 1))), ((d_t_holders 2), .inr (2, [.int ((va_up t_holders_sort 2 (x5.1)) 2), .long ((va_up t_holders_tree 2 (x5.2.1)) 2), .int ((va_up t_holders_limit 2 (x5.2.2)) 2), .ref (q_t_holders 2), .long (t_holders_above 2), .int (t_holders_size 2)])), ((q_t_holders 2), .inl (cI, 20, .inl (a_t_holders 2))), ((d_t_holders 3), .inr (2, [.int ((va_up t_holders_sort 2 (x5.1)) 3), .long ((va_up t_holders_tree 2 (x5.2.1)) 3), .int ((va_up t_holders_limit 2 (x5.2.2)) 3), .ref (q_t_holders 3), .long (t_holders_above 3), .int (t_holders_size 3)])), ((q_t_holders 3), .inl (cI, 20, .inl (a_t_holders 3))), ((d_t_holders 4), .inr (2, [.int ((va_up t_holders_sort 2 (x5.1)) 4), .long ((va_up t_holders_tree 2 (x5.2.1)) 4), .int ((va_up t_holders_limit 2 (x5.2.2)) 4), .ref (q_t_holders 4), .long (t_holders_above 4), .int (t_holders_size 4)])), ((q_t_holders 4), .inl (cI, 20, .inl (a_t_holders 4))), ((d_t_holders 5), .inr (2, [.int ((va_up t_holders_sort 2 (x5.1)) 5), .long ((va_up t_holders_tree 2 (x5.2.1)) 5), .int ((va_up t_holders_limit 2 (x5.2.2)) 5), .ref (q_t_holders 5), .long (t_holders_above 5), .int (t_holders_size 5)])), ((q_t_holders 5), .inl (cI, 20, .inl (a_t_holders 5))), (h_t_desk, .inr (1, [.int t_desk_genus, .int t_desk_size, .ref h_t_desk_powers, .int t_desk_limit, .long t_desk_tree])), (h_t_numbers, .inr (3, [.ref h_t_numbers_keys, .ref h_t_numbers_aboves, .ref h_t_numbers_rounds, .int t_numbers_round, .int t_numbers_size, .int t_numbers_sum, .long t_numbers_gathered])), (h_t_desk_powers, .inl (cI, 8, .inl a_t_desk_powers)), (h_t_numbers_keys, .inl (cJ, 1024, .inr (.inl a_t_numbers_keys))), (h_t_numbers_aboves, .inl (cJ, 1024, .inr (.inl a_t_numbers_aboves)))] [0, 1, 2, 3, 4, 5, 7, 8, 9, 10, 11, 12, 13, 14, 15, 16, 17, 18] 19 rfl rfl rfl (by decide +kernel) rfl (fun hp5 H locs hP hD hS => ?_)
    refine lv_aload_n hx hb dX8_hold_60 rfl (lv_at hl 1 rfl) ?_
    refine va_get (D := G) (ci := 7) (v := .ref h_t_desk) (C := RX8) (T := TX8) (N := 9) hx hb hts hinX8 hown hK hP 0 rfl rfl 0 (by decide) (hts (.fieldLink RX8 12 "MarkedCurves" "desk" "LMarkedCurves$Desk;") (List.mem_of_getElem? (i := 1) (by decide +kernel))) (fun _ h9 => h9) rfl dX8_hold_61 ?_
    refine va_get (D := G) (ci := 1) (v := .long t_desk_tree) (C := RX1) (T := TX1) (N := 5) hx hb hts hinX1 hown hK hP 14 rfl rfl 4 (by decide) (hts (.fieldLink RX8 156 "MarkedCurves$Desk" "tree" "J") (List.mem_of_getElem? (i := 3) (by decide +kernel))) (fun _ h9 => h9) rfl dX8_hold_64 ?_
    obtain ⟨x6, hx6, h⟩ := bd_e h
    try dsimp only at h
    refine k_SiU (n := 1) (As := [.long t_desk_tree]) (rest := []) hx hb hml hown hts (c_X6_sizeOf l G cI cJ cD cH H.size t_desk_tree x6 hx6) gX8_hold_X6_sizeOf rfl rfl rfl (by decide +kernel) ⟨by first | exact Nat.le_of_ble_eq_true rfl | (simp only [headSpec]; omega), by first | exact Nat.le_of_ble_eq_true rfl | (simp only [headSpec]; omega)⟩ hK hP hD hS hA [] (by decide) rfl rfl rfl hl.1 (Nat.le_of_ble_eq_true rfl) dX8_hold_67 ⟨Nat.zero_le _, Nat.zero_le _⟩ (fun hp6 H locs hP hS => ?_)
    cases h
    exact k_iret hx hb hr hlocks hP hS rfl dX8_hold_70
  · refine k_VqU (n := 1) (As := [.int p0]) (rest := []) hx hb hml hown hts (c_X8_holderAt l G cI cJ cD cH s.heap.size h_t h_t_holders h_t_desk h_t_imageDesk h_t_deeds h_t_numbers h_t_tape h_t_reader h_t_speller d_t_holders q_t_holders a_t_holders t_holders_sort t_holders_tree t_holders_limit t_holders_above t_holders_size t_imageKept p0 3 hx1) gX8_hold_X8_holderAt rfl rfl rfl (by decide +kernel) ⟨by first | exact Nat.le_of_ble_eq_true rfl | (simp only [headSpec]; omega), by first | exact Nat.le_of_ble_eq_true rfl | (simp only [headSpec]; omega)⟩ hK hP hD hS hA [0, 1, 2, 3, 4, 5, 6, 7, 8, 9, 10, 11, 12, 13] (by decide) rfl (ci := 7) rfl rfl rfl rfl rfl hl.1 (Nat.le_of_ble_eq_true rfl) dX8_hold_2 ⟨Nat.zero_le _, Nat.zero_le _⟩ (fun hp1 H locs hP hS => ?_)
    refine W.eq (g2 := F0 m 5 ls [.ref (d_t_holders 3)]) rfl ?_
    have h := it_n h (by decide)
    refine lv_astore_n (lv' := [(3, .ref (d_t_holders 3)), (0, .ref h_t), (1, .int p0), (2, .int p1)]) hx hb dX8_hold_5 rfl hl (by decide) rfl (fun ls hl => ?_)
    refine lv_aload_n hx hb dX8_hold_6 rfl (lv_at hl 0 rfl) ?_
    refine lv_ifnull hx hb dX8_hold_7 ?_
    refine lv_iload_n hx hb dX8_hold_10 rfl (lv_at hl 3 rfl) ?_
    refine lv_if_lt (tgt := 19) hx hb dX8_hold_11 (by decide) (fun c2 => ?_) (fun c2 => ?_)
    · have h := it_p h c2
      refine lv_iconst (v := (-1 : Int32)) hx hb dX8_hold_19 (by decide) ?_
      cases h
      exact k_iret hx hb hr hlocks hP hS rfl dX8_hold_20
    have h := it_n h c2
    refine lv_iload_n hx hb dX8_hold_14 rfl (lv_at hl 3 rfl) ?_
    refine lv_iconst (v := (1 : Int32)) hx hb dX8_hold_15 (by decide) ?_
    refine lv_icmp_le (tgt := 21) hx hb dX8_hold_16 (by decide) (fun c3 => ?_) (fun c3 => ?_)
    rotate_left
    · have h := it_n h c3
      refine lv_iconst (v := (-1 : Int32)) hx hb dX8_hold_19 (by decide) ?_
      cases h
      exact k_iret hx hb hr hlocks hP hS rfl dX8_hold_20
    have h := it_p h c3
    refine lv_iload_n hx hb dX8_hold_21 rfl (lv_at hl 3 rfl) ?_
    refine lv_if_ne (tgt := 42) hx hb dX8_hold_22 (by decide) (fun c4 => ?_) (fun c4 => ?_)
    rotate_left
    · have h := it_p h c4
      refine lv_aload_n hx hb dX8_hold_25 rfl (lv_at hl 0 rfl) ?_
      refine lv_aload_n hx hb dX8_hold_26 rfl (lv_at hl 1 rfl) ?_
      refine lv_iconst (v := (0 : Int32)) hx hb dX8_hold_27 (by decide) ?_
      obtain ⟨x7, hx7, h⟩ := bd_e h
      try dsimp only at h
      refine k_Vl (n := 1) (As := [.int (0 : Int32)]) (rest := [.ref (d_t_holders 3)]) hx hb hml hown hts (c_X8_number l G cI cJ cD cH H.size h_t h_t_numbers h_t_desk h_t_desk_powers h_t_numbers_keys h_t_numbers_aboves h_t_imageDesk h_t_deeds h_t_tape h_t_reader h_t_speller h_t_holders h_t_numbers_rounds t_imageKept t_numbers_round t_numbers_size t_numbers_sum t_numbers_gathered t_desk_genus t_desk_size t_desk_limit t_desk_tree a_t_desk_powers a_t_numbers_keys a_t_numbers_aboves (0 : Int32) (x7.1) (x7.2.1) (x7.2.2.1) (x7.2.2.2.1) (x7.2.2.2.2.1) (x7.2.2.2.2.2) hx7) gX8_hold_X8_number rfl rfl rfl (by decide +kernel) ⟨by first | exact Nat.le_of_ble_eq_true rfl | (simp only [headSpec]; omega), by first | exact Nat.le_of_ble_eq_true rfl | (simp only [headSpec]; omega)⟩ hK hP hD hS hA [0, 15, 14, 16, 17, 18] (by decide) rfl rfl (ci := 7) rfl rfl rfl rfl rfl hl.1 (Nat.le_of_ble_eq_true rfl) dX8_hold_28 ⟨Nat.zero_le _, Nat.zero_le _⟩ [(h_t, .inr (7, [.ref h_t_desk, .ref h_t_imageDesk, .ref h_t_deeds, .ref h_t_numbers, .ref h_t_tape, .ref h_t_reader, .ref h_t_speller, .ref h_t_holders, .int t_imageKept])), (h_t_holders, .inl (cH, 6, .inr (.inr (.inr (.inr (fun i => some (d_t_holders i))))))), ((d_t_holders 0), .inr (2, [.int (t_holders_sort 0), .long (t_holders_tree 0), .int (t_holders_limit 0), .ref (q_t_holders 0), .long (t_holders_above 0), .int (t_holders_size 0)])), ((q_t_holders 0), .inl (cI, 20, .inl (a_t_holders 0))), ((d_t_holders 1), .inr (2, [.int (t_holders_sort 1), .long (t_holders_tree 1), .int (t_holders_limit 1), .ref (q_t_holders 1), .long (t_holders_above 1), .int (t_holders_size 1)])), ((q_t_holders 1), .inl (cI, 20, .inl (a_t_holders 1))), ((d_t_holders 2), .inr (2, [.int (t_holders_sort 2), .long (t_holders_tree 2), .int (t_holders_limit 2), .ref (q_t_holders 2), .long (t_holders_above 2), .int (t_holders_size 2)])), ((q_t_holders 2), .inl (cI, 20, .inl (a_t_holders 2))), ((d_t_holders 3), .inr (2, [.int (t_holders_sort 3), .long (t_holders_tree 3), .int (t_holders_limit 3), .ref (q_t_holders 3), .long (t_holders_above 3), .int (t_holders_size 3)])), ((q_t_holders 3), .inl (cI, 20, .inl (a_t_holders 3))), ((d_t_holders 4), .inr (2, [.int (t_holders_sort 4), .long (t_holders_tree 4), .int (t_holders_limit 4), .ref (q_t_holders 4), .long (t_holders_above 4), .int (t_holders_size 4)])), ((q_t_holders 4), .inl (cI, 20, .inl (a_t_holders 4))), ((d_t_holders 5), .inr (2, [.int (t_holders_sort 5), .long (t_holders_tree 5), .int (t_holders_limit 5), .ref (q_t_holders 5), .long (t_holders_above 5), .int (t_holders_size 5)])), ((q_t_holders 5), .inl (cI, 20, .inl (a_t_holders 5))), (h_t_desk, .inr (1, [.int t_desk_genus, .int t_desk_size, .ref h_t_desk_powers, .int t_desk_limit, .long t_desk_tree])), (h_t_numbers, .inr (3, [.ref h_t_numbers_keys, .ref h_t_numbers_aboves, .ref h_t_numbers_rounds, .int t_numbers_round, .int (x7.2.2.2.1), .int (x7.2.2.2.2.1), .long (x7.2.2.2.2.2)])), (h_t_desk_powers, .inl (cI, 8, .inl a_t_desk_powers)), (h_t_numbers_keys, .inl (cJ, 1024, .inr (.inl (x7.2.1)))), (h_t_numbers_aboves, .inl (cJ, 1024, .inr (.inl (x7.2.2.1))))] [1, 2, 3, 4, 5, 6, 7, 8, 9, 10, 11, 12, 13] 19 rfl rfl rfl (by decide +kernel) rfl (fun hp7 H locs hP hD hS => ?_)
      obtain ⟨x8, hx8, h⟩ := bd_e h
      try dsimp only at h
      refine k_Vv (n := 1) (As := [.long (x7.1)]) (rest := []) hx hb hml hown hts (c_X2_holdNumber l G cI cJ cD cH H.size (d_t_holders 3) (q_t_holders 3) (t_holders_sort 3) (t_holders_tree 3) (t_holders_limit 3) (t_holders_above 3) (t_holders_size 3) (x7.1) (x8.1) (x8.2) hx8) gX8_hold_X2_holdNumber rfl rfl rfl (by decide +kernel) ⟨by first | exact Nat.le_of_ble_eq_true rfl | (simp only [headSpec]; omega), by first | exact Nat.le_of_ble_eq_true rfl | (simp only [headSpec]; omega)⟩ hK hP hD hS hA [8] (by decide) rfl rfl (ci := 2) rfl rfl rfl rfl rfl hl.1 (Nat.le_of_ble_eq_true rfl) dX8_hold_31 ⟨Nat.zero_le _, Nat.zero_le _⟩ [(h_t, .inr (7, [.ref h_t_desk, .ref h_t_imageDesk, .ref h_t_deeds, .ref h_t_numbers, .ref h_t_tape, .ref h_t_reader, .ref h_t_speller, .ref h_t_holders, .int t_imageKept])), (h_t_holders, .inl (cH, 6, .inr (.inr (.inr (.inr (fun i => some (d_t_holders i))))))), ((d_t_holders 0), .inr (2, [.int ((va_up t_holders_sort 3 (x8.1)) 0), .long (t_holders_tree 0), .int (t_holders_limit 0), .ref (q_t_holders 0), .long ((va_up t_holders_above 3 (x8.2)) 0), .int (t_holders_size 0)])), ((q_t_holders 0), .inl (cI, 20, .inl (a_t_holders 0))), ((d_t_holders 1), .inr (2, [.int ((va_up t_holders_sort 3 (x8.1)) 1), .long (t_holders_tree 1), .int (t_holders_limit 1), .ref (q_t_holders 1), .long ((va_up t_holders_above 3 (x8.2)) 1), .int (t_holders_size 1)])), ((q_t_holders 1), .inl (cI, 20, .inl (a_t_holders 1))), ((d_t_holders 2), .inr (2, [.int ((va_up t_holders_sort 3 (x8.1)) 2), .long (t_holders_tree 2), .int (t_holders_limit 2), .ref (q_t_holders 2), .long ((va_up t_holders_above 3 (x8.2)) 2), .int (t_holders_size 2)])), ((q_t_holders 2), .inl (cI, 20, .inl (a_t_holders 2))), ((d_t_holders 3), .inr (2, [.int ((va_up t_holders_sort 3 (x8.1)) 3), .long (t_holders_tree 3), .int (t_holders_limit 3), .ref (q_t_holders 3), .long ((va_up t_holders_above 3 (x8.2)) 3), .int (t_holders_size 3)])), ((q_t_holders 3), .inl (cI, 20, .inl (a_t_holders 3))), ((d_t_holders 4), .inr (2, [.int ((va_up t_holders_sort 3 (x8.1)) 4), .long (t_holders_tree 4), .int (t_holders_limit 4), .ref (q_t_holders 4), .long ((va_up t_holders_above 3 (x8.2)) 4), .int (t_holders_size 4)])), ((q_t_holders 4), .inl (cI, 20, .inl (a_t_holders 4))), ((d_t_holders 5), .inr (2, [.int ((va_up t_holders_sort 3 (x8.1)) 5), .long (t_holders_tree 5), .int (t_holders_limit 5), .ref (q_t_holders 5), .long ((va_up t_holders_above 3 (x8.2)) 5), .int (t_holders_size 5)])), ((q_t_holders 5), .inl (cI, 20, .inl (a_t_holders 5))), (h_t_desk, .inr (1, [.int t_desk_genus, .int t_desk_size, .ref h_t_desk_powers, .int t_desk_limit, .long t_desk_tree])), (h_t_numbers, .inr (3, [.ref h_t_numbers_keys, .ref h_t_numbers_aboves, .ref h_t_numbers_rounds, .int t_numbers_round, .int (x7.2.2.2.1), .int (x7.2.2.2.2.1), .long (x7.2.2.2.2.2)])), (h_t_desk_powers, .inl (cI, 8, .inl a_t_desk_powers)), (h_t_numbers_keys, .inl (cJ, 1024, .inr (.inl (x7.2.1)))), (h_t_numbers_aboves, .inl (cJ, 1024, .inr (.inl (x7.2.2.1))))] [0, 1, 2, 3, 4, 5, 6, 7, 9, 10, 11, 12, 13, 14, 15, 16, 17, 18] 19 rfl rfl rfl (by decide +kernel) rfl (fun hp8 H locs hP hD hS => ?_)
      refine lv_aload_n hx hb dX8_hold_34 rfl (lv_at hl 1 rfl) ?_
      refine va_get (D := G) (ci := 7) (v := .ref h_t_desk) (C := RX8) (T := TX8) (N := 9) hx hb hts hinX8 hown hK hP 0 rfl rfl 0 (by decide) (hts (.fieldLink RX8 12 "MarkedCurves" "desk" "LMarkedCurves$Desk;") (List.mem_of_getElem? (i := 1) (by decide +kernel))) (fun _ h9 => h9) rfl dX8_hold_35 ?_
      refine va_get (D := G) (ci := 1) (v := .int t_desk_size) (C := RX1) (T := TX1) (N := 5) hx hb hts hinX1 hown hK hP 14 rfl rfl 1 (by decide) (hts (.fieldLink RX8 73 "MarkedCurves$Desk" "size" "I") (List.mem_of_getElem? (i := 2) (by decide +kernel))) (fun _ h9 => h9) rfl dX8_hold_38 ?_
      cases h
      exact k_iret hx hb hr hlocks hP hS rfl dX8_hold_41
    have h := it_n h c4
    refine lv_aload_n hx hb dX8_hold_42 rfl (lv_at hl 0 rfl) ?_
    refine lv_aload_n hx hb dX8_hold_43 rfl (lv_at hl 1 rfl) ?_
    refine va_get (D := G) (ci := 7) (v := .ref h_t_desk) (C := RX8) (T := TX8) (N := 9) hx hb hts hinX8 hown hK hP 0 rfl rfl 0 (by decide) (hts (.fieldLink RX8 12 "MarkedCurves" "desk" "LMarkedCurves$Desk;") (List.mem_of_getElem? (i := 1) (by decide +kernel))) (fun _ h9 => h9) rfl dX8_hold_44 ?_
    refine va_get (D := G) (ci := 1) (v := .long t_desk_tree) (C := RX1) (T := TX1) (N := 5) hx hb hts hinX1 hown hK hP 14 rfl rfl 4 (by decide) (hts (.fieldLink RX8 156 "MarkedCurves$Desk" "tree" "J") (List.mem_of_getElem? (i := 3) (by decide +kernel))) (fun _ h9 => h9) rfl dX8_hold_47 ?_
    refine lv_aload_n hx hb dX8_hold_50 rfl (lv_at hl 1 rfl) ?_
    refine va_get (D := G) (ci := 7) (v := .ref h_t_desk) (C := RX8) (T := TX8) (N := 9) hx hb hts hinX8 hown hK hP 0 rfl rfl 0 (by decide) (hts (.fieldLink RX8 12 "MarkedCurves" "desk" "LMarkedCurves$Desk;") (List.mem_of_getElem? (i := 1) (by decide +kernel))) (fun _ h9 => h9) rfl dX8_hold_51 ?_
    refine va_get (D := G) (ci := 1) (v := .int t_desk_limit) (C := RX1) (T := TX1) (N := 5) hx hb hts hinX1 hown hK hP 14 rfl rfl 3 (by decide) (hts (.fieldLink RX8 153 "MarkedCurves$Desk" "limit" "I") (List.mem_of_getElem? (i := 4) (by decide +kernel))) (fun _ h9 => h9) rfl dX8_hold_54 ?_
    obtain ⟨x5, hx5, h⟩ := bd_e h
    try dsimp only at h
    refine k_Vv (n := 2) (As := [.long t_desk_tree, .int t_desk_limit]) (rest := []) hx hb hml hown hts (c_X2_holdTree l G cI cJ cD cH H.size (d_t_holders 3) (q_t_holders 3) (t_holders_sort 3) (t_holders_tree 3) (t_holders_limit 3) (t_holders_above 3) (t_holders_size 3) t_desk_tree t_desk_limit (x5.1) (x5.2.1) (x5.2.2) hx5) gX8_hold_X2_holdTree rfl rfl rfl (by decide +kernel) ⟨by first | exact Nat.le_of_ble_eq_true rfl | (simp only [headSpec]; omega), by first | exact Nat.le_of_ble_eq_true rfl | (simp only [headSpec]; omega)⟩ hK hP hD hS hA [8] (by decide) rfl rfl (ci := 2) rfl rfl rfl rfl rfl hl.1 (Nat.le_of_ble_eq_true rfl) dX8_hold_57 ⟨Nat.zero_le _, Nat.zero_le _⟩ [(h_t, .inr (7, [.ref h_t_desk, .ref h_t_imageDesk, .ref h_t_deeds, .ref h_t_numbers, .ref h_t_tape, .ref h_t_reader, .ref h_t_speller, .ref h_t_holders, .int t_imageKept])), (h_t_holders, .inl (cH, 6, .inr (.inr (.inr (.inr (fun i => some (d_t_holders i))))))), ((d_t_holders 0), .inr (2, [.int ((va_up t_holders_sort 3 (x5.1)) 0), .long ((va_up t_holders_tree 3 (x5.2.1)) 0), .int ((va_up t_holders_limit 3 (x5.2.2)) 0), .ref (q_t_holders 0), .long (t_holders_above 0), .int (t_holders_size 0)])), ((q_t_holders 0), .inl (cI, 20, .inl (a_t_holders 0))), ((d_t_holders 1), .inr (2, [.int ((va_up t_holders_sort 3 (x5.1)) 1), .long ((va_up t_holders_tree 3 (x5.2.1)) 1), .int ((va_up t_holders_limit 3 (x5.2.2)) 1), .ref (q_t_holders 1), .long (t_holders_above 1), .int (t_holders_size 1)])), ((q_t_holders 1), .inl (cI, 20, .inl (a_t_holders 1))), ((d_t_holders 2), .inr (2, [.int ((va_up t_holders_sort 3 (x5.1)) 2), .long ((va_up t_holders_tree 3 (x5.2.1)) 2), .int ((va_up t_holders_limit 3 (x5.2.2)) 2), .ref (q_t_holders 2), .long (t_holders_above 2), .int (t_holders_size 2)])), ((q_t_holders 2), .inl (cI, 20, .inl (a_t_holders 2))), ((d_t_holders 3), .inr (2, [.int ((va_up t_holders_sort 3 (x5.1)) 3), .long ((va_up t_holders_tree 3 (x5.2.1)) 3), .int ((va_up t_holders_limit 3 (x5.2.2)) 3), .ref (q_t_holders 3), .long (t_holders_above 3), .int (t_holders_size 3)])), ((q_t_holders 3), .inl (cI, 20, .inl (a_t_holders 3))), ((d_t_holders 4), .inr (2, [.int ((va_up t_holders_sort 3 (x5.1)) 4), .long ((va_up t_holders_tree 3 (x5.2.1)) 4), .int ((va_up t_holders_limit 3 (x5.2.2)) 4), .ref (q_t_holders 4), .long (t_holders_above 4), .int (t_holders_size 4)])), ((q_t_holders 4), .inl (cI, 20, .inl (a_t_holders 4))), ((d_t_holders 5), .inr (2, [.int ((va_up t_holders_sort 3 (x5.1)) 5), .long ((va_up t_holders_tree 3 (x5.2.1)) 5), .int ((va_up t_holders_limit 3 (x5.2.2)) 5), .ref (q_t_holders 5), .long (t_holders_above 5), .int (t_holders_size 5)])), ((q_t_holders 5), .inl (cI, 20, .inl (a_t_holders 5))), (h_t_desk, .inr (1, [.int t_desk_genus, .int t_desk_size, .ref h_t_desk_powers, .int t_desk_limit, .long t_desk_tree])), (h_t_numbers, .inr (3, [.ref h_t_numbers_keys, .ref h_t_numbers_aboves, .ref h_t_numbers_rounds, .int t_numbers_round, .int t_numbers_size, .int t_numbers_sum, .long t_numbers_gathered])), (h_t_desk_powers, .inl (cI, 8, .inl a_t_desk_powers)), (h_t_numbers_keys, .inl (cJ, 1024, .inr (.inl a_t_numbers_keys))), (h_t_numbers_aboves, .inl (cJ, 1024, .inr (.inl a_t_numbers_aboves)))] [0, 1, 2, 3, 4, 5, 6, 7, 9, 10, 11, 12, 13, 14, 15, 16, 17, 18] 19 rfl rfl rfl (by decide +kernel) rfl (fun hp5 H locs hP hD hS => ?_)
    refine lv_aload_n hx hb dX8_hold_60 rfl (lv_at hl 1 rfl) ?_
    refine va_get (D := G) (ci := 7) (v := .ref h_t_desk) (C := RX8) (T := TX8) (N := 9) hx hb hts hinX8 hown hK hP 0 rfl rfl 0 (by decide) (hts (.fieldLink RX8 12 "MarkedCurves" "desk" "LMarkedCurves$Desk;") (List.mem_of_getElem? (i := 1) (by decide +kernel))) (fun _ h9 => h9) rfl dX8_hold_61 ?_
    refine va_get (D := G) (ci := 1) (v := .long t_desk_tree) (C := RX1) (T := TX1) (N := 5) hx hb hts hinX1 hown hK hP 14 rfl rfl 4 (by decide) (hts (.fieldLink RX8 156 "MarkedCurves$Desk" "tree" "J") (List.mem_of_getElem? (i := 3) (by decide +kernel))) (fun _ h9 => h9) rfl dX8_hold_64 ?_
    obtain ⟨x6, hx6, h⟩ := bd_e h
    try dsimp only at h
    refine k_SiU (n := 1) (As := [.long t_desk_tree]) (rest := []) hx hb hml hown hts (c_X6_sizeOf l G cI cJ cD cH H.size t_desk_tree x6 hx6) gX8_hold_X6_sizeOf rfl rfl rfl (by decide +kernel) ⟨by first | exact Nat.le_of_ble_eq_true rfl | (simp only [headSpec]; omega), by first | exact Nat.le_of_ble_eq_true rfl | (simp only [headSpec]; omega)⟩ hK hP hD hS hA [] (by decide) rfl rfl rfl hl.1 (Nat.le_of_ble_eq_true rfl) dX8_hold_67 ⟨Nat.zero_le _, Nat.zero_le _⟩ (fun hp6 H locs hP hS => ?_)
    cases h
    exact k_iret hx hb hr hlocks hP hS rfl dX8_hold_70
  · refine k_VqU (n := 1) (As := [.int p0]) (rest := []) hx hb hml hown hts (c_X8_holderAt l G cI cJ cD cH s.heap.size h_t h_t_holders h_t_desk h_t_imageDesk h_t_deeds h_t_numbers h_t_tape h_t_reader h_t_speller d_t_holders q_t_holders a_t_holders t_holders_sort t_holders_tree t_holders_limit t_holders_above t_holders_size t_imageKept p0 4 hx1) gX8_hold_X8_holderAt rfl rfl rfl (by decide +kernel) ⟨by first | exact Nat.le_of_ble_eq_true rfl | (simp only [headSpec]; omega), by first | exact Nat.le_of_ble_eq_true rfl | (simp only [headSpec]; omega)⟩ hK hP hD hS hA [0, 1, 2, 3, 4, 5, 6, 7, 8, 9, 10, 11, 12, 13] (by decide) rfl (ci := 7) rfl rfl rfl rfl rfl hl.1 (Nat.le_of_ble_eq_true rfl) dX8_hold_2 ⟨Nat.zero_le _, Nat.zero_le _⟩ (fun hp1 H locs hP hS => ?_)
    refine W.eq (g2 := F0 m 5 ls [.ref (d_t_holders 4)]) rfl ?_
    have h := it_n h (by decide)
    refine lv_astore_n (lv' := [(3, .ref (d_t_holders 4)), (0, .ref h_t), (1, .int p0), (2, .int p1)]) hx hb dX8_hold_5 rfl hl (by decide) rfl (fun ls hl => ?_)
    refine lv_aload_n hx hb dX8_hold_6 rfl (lv_at hl 0 rfl) ?_
    refine lv_ifnull hx hb dX8_hold_7 ?_
    refine lv_iload_n hx hb dX8_hold_10 rfl (lv_at hl 3 rfl) ?_
    refine lv_if_lt (tgt := 19) hx hb dX8_hold_11 (by decide) (fun c2 => ?_) (fun c2 => ?_)
    · have h := it_p h c2
      refine lv_iconst (v := (-1 : Int32)) hx hb dX8_hold_19 (by decide) ?_
      cases h
      exact k_iret hx hb hr hlocks hP hS rfl dX8_hold_20
    have h := it_n h c2
    refine lv_iload_n hx hb dX8_hold_14 rfl (lv_at hl 3 rfl) ?_
    refine lv_iconst (v := (1 : Int32)) hx hb dX8_hold_15 (by decide) ?_
    refine lv_icmp_le (tgt := 21) hx hb dX8_hold_16 (by decide) (fun c3 => ?_) (fun c3 => ?_)
    rotate_left
    · have h := it_n h c3
      refine lv_iconst (v := (-1 : Int32)) hx hb dX8_hold_19 (by decide) ?_
      cases h
      exact k_iret hx hb hr hlocks hP hS rfl dX8_hold_20
    have h := it_p h c3
    refine lv_iload_n hx hb dX8_hold_21 rfl (lv_at hl 3 rfl) ?_
    refine lv_if_ne (tgt := 42) hx hb dX8_hold_22 (by decide) (fun c4 => ?_) (fun c4 => ?_)
    rotate_left
    · have h := it_p h c4
      refine lv_aload_n hx hb dX8_hold_25 rfl (lv_at hl 0 rfl) ?_
      refine lv_aload_n hx hb dX8_hold_26 rfl (lv_at hl 1 rfl) ?_
      refine lv_iconst (v := (0 : Int32)) hx hb dX8_hold_27 (by decide) ?_
      obtain ⟨x7, hx7, h⟩ := bd_e h
      try dsimp only at h
      refine k_Vl (n := 1) (As := [.int (0 : Int32)]) (rest := [.ref (d_t_holders 4)]) hx hb hml hown hts (c_X8_number l G cI cJ cD cH H.size h_t h_t_numbers h_t_desk h_t_desk_powers h_t_numbers_keys h_t_numbers_aboves h_t_imageDesk h_t_deeds h_t_tape h_t_reader h_t_speller h_t_holders h_t_numbers_rounds t_imageKept t_numbers_round t_numbers_size t_numbers_sum t_numbers_gathered t_desk_genus t_desk_size t_desk_limit t_desk_tree a_t_desk_powers a_t_numbers_keys a_t_numbers_aboves (0 : Int32) (x7.1) (x7.2.1) (x7.2.2.1) (x7.2.2.2.1) (x7.2.2.2.2.1) (x7.2.2.2.2.2) hx7) gX8_hold_X8_number rfl rfl rfl (by decide +kernel) ⟨by first | exact Nat.le_of_ble_eq_true rfl | (simp only [headSpec]; omega), by first | exact Nat.le_of_ble_eq_true rfl | (simp only [headSpec]; omega)⟩ hK hP hD hS hA [0, 15, 14, 16, 17, 18] (by decide) rfl rfl (ci := 7) rfl rfl rfl rfl rfl hl.1 (Nat.le_of_ble_eq_true rfl) dX8_hold_28 ⟨Nat.zero_le _, Nat.zero_le _⟩ [(h_t, .inr (7, [.ref h_t_desk, .ref h_t_imageDesk, .ref h_t_deeds, .ref h_t_numbers, .ref h_t_tape, .ref h_t_reader, .ref h_t_speller, .ref h_t_holders, .int t_imageKept])), (h_t_holders, .inl (cH, 6, .inr (.inr (.inr (.inr (fun i => some (d_t_holders i))))))), ((d_t_holders 0), .inr (2, [.int (t_holders_sort 0), .long (t_holders_tree 0), .int (t_holders_limit 0), .ref (q_t_holders 0), .long (t_holders_above 0), .int (t_holders_size 0)])), ((q_t_holders 0), .inl (cI, 20, .inl (a_t_holders 0))), ((d_t_holders 1), .inr (2, [.int (t_holders_sort 1), .long (t_holders_tree 1), .int (t_holders_limit 1), .ref (q_t_holders 1), .long (t_holders_above 1), .int (t_holders_size 1)])), ((q_t_holders 1), .inl (cI, 20, .inl (a_t_holders 1))), ((d_t_holders 2), .inr (2, [.int (t_holders_sort 2), .long (t_holders_tree 2), .int (t_holders_limit 2), .ref (q_t_holders 2), .long (t_holders_above 2), .int (t_holders_size 2)])), ((q_t_holders 2), .inl (cI, 20, .inl (a_t_holders 2))), ((d_t_holders 3), .inr (2, [.int (t_holders_sort 3), .long (t_holders_tree 3), .int (t_holders_limit 3), .ref (q_t_holders 3), .long (t_holders_above 3), .int (t_holders_size 3)])), ((q_t_holders 3), .inl (cI, 20, .inl (a_t_holders 3))), ((d_t_holders 4), .inr (2, [.int (t_holders_sort 4), .long (t_holders_tree 4), .int (t_holders_limit 4), .ref (q_t_holders 4), .long (t_holders_above 4), .int (t_holders_size 4)])), ((q_t_holders 4), .inl (cI, 20, .inl (a_t_holders 4))), ((d_t_holders 5), .inr (2, [.int (t_holders_sort 5), .long (t_holders_tree 5), .int (t_holders_limit 5), .ref (q_t_holders 5), .long (t_holders_above 5), .int (t_holders_size 5)])), ((q_t_holders 5), .inl (cI, 20, .inl (a_t_holders 5))), (h_t_desk, .inr (1, [.int t_desk_genus, .int t_desk_size, .ref h_t_desk_powers, .int t_desk_limit, .long t_desk_tree])), (h_t_numbers, .inr (3, [.ref h_t_numbers_keys, .ref h_t_numbers_aboves, .ref h_t_numbers_rounds, .int t_numbers_round, .int (x7.2.2.2.1), .int (x7.2.2.2.2.1), .long (x7.2.2.2.2.2)])), (h_t_desk_powers, .inl (cI, 8, .inl a_t_desk_powers)), (h_t_numbers_keys, .inl (cJ, 1024, .inr (.inl (x7.2.1)))), (h_t_numbers_aboves, .inl (cJ, 1024, .inr (.inl (x7.2.2.1))))] [1, 2, 3, 4, 5, 6, 7, 8, 9, 10, 11, 12, 13] 19 rfl rfl rfl (by decide +kernel) rfl (fun hp7 H locs hP hD hS => ?_)
      obtain ⟨x8, hx8, h⟩ := bd_e h
      try dsimp only at h
      refine k_Vv (n := 1) (As := [.long (x7.1)]) (rest := []) hx hb hml hown hts (c_X2_holdNumber l G cI cJ cD cH H.size (d_t_holders 4) (q_t_holders 4) (t_holders_sort 4) (t_holders_tree 4) (t_holders_limit 4) (t_holders_above 4) (t_holders_size 4) (x7.1) (x8.1) (x8.2) hx8) gX8_hold_X2_holdNumber rfl rfl rfl (by decide +kernel) ⟨by first | exact Nat.le_of_ble_eq_true rfl | (simp only [headSpec]; omega), by first | exact Nat.le_of_ble_eq_true rfl | (simp only [headSpec]; omega)⟩ hK hP hD hS hA [10] (by decide) rfl rfl (ci := 2) rfl rfl rfl rfl rfl hl.1 (Nat.le_of_ble_eq_true rfl) dX8_hold_31 ⟨Nat.zero_le _, Nat.zero_le _⟩ [(h_t, .inr (7, [.ref h_t_desk, .ref h_t_imageDesk, .ref h_t_deeds, .ref h_t_numbers, .ref h_t_tape, .ref h_t_reader, .ref h_t_speller, .ref h_t_holders, .int t_imageKept])), (h_t_holders, .inl (cH, 6, .inr (.inr (.inr (.inr (fun i => some (d_t_holders i))))))), ((d_t_holders 0), .inr (2, [.int ((va_up t_holders_sort 4 (x8.1)) 0), .long (t_holders_tree 0), .int (t_holders_limit 0), .ref (q_t_holders 0), .long ((va_up t_holders_above 4 (x8.2)) 0), .int (t_holders_size 0)])), ((q_t_holders 0), .inl (cI, 20, .inl (a_t_holders 0))), ((d_t_holders 1), .inr (2, [.int ((va_up t_holders_sort 4 (x8.1)) 1), .long (t_holders_tree 1), .int (t_holders_limit 1), .ref (q_t_holders 1), .long ((va_up t_holders_above 4 (x8.2)) 1), .int (t_holders_size 1)])), ((q_t_holders 1), .inl (cI, 20, .inl (a_t_holders 1))), ((d_t_holders 2), .inr (2, [.int ((va_up t_holders_sort 4 (x8.1)) 2), .long (t_holders_tree 2), .int (t_holders_limit 2), .ref (q_t_holders 2), .long ((va_up t_holders_above 4 (x8.2)) 2), .int (t_holders_size 2)])), ((q_t_holders 2), .inl (cI, 20, .inl (a_t_holders 2))), ((d_t_holders 3), .inr (2, [.int ((va_up t_holders_sort 4 (x8.1)) 3), .long (t_holders_tree 3), .int (t_holders_limit 3), .ref (q_t_holders 3), .long ((va_up t_holders_above 4 (x8.2)) 3), .int (t_holders_size 3)])), ((q_t_holders 3), .inl (cI, 20, .inl (a_t_holders 3))), ((d_t_holders 4), .inr (2, [.int ((va_up t_holders_sort 4 (x8.1)) 4), .long (t_holders_tree 4), .int (t_holders_limit 4), .ref (q_t_holders 4), .long ((va_up t_holders_above 4 (x8.2)) 4), .int (t_holders_size 4)])), ((q_t_holders 4), .inl (cI, 20, .inl (a_t_holders 4))), ((d_t_holders 5), .inr (2, [.int ((va_up t_holders_sort 4 (x8.1)) 5), .long (t_holders_tree 5), .int (t_holders_limit 5), .ref (q_t_holders 5), .long ((va_up t_holders_above 4 (x8.2)) 5), .int (t_holders_size 5)])), ((q_t_holders 5), .inl (cI, 20, .inl (a_t_holders 5))), (h_t_desk, .inr (1, [.int t_desk_genus, .int t_desk_size, .ref h_t_desk_powers, .int t_desk_limit, .long t_desk_tree])), (h_t_numbers, .inr (3, [.ref h_t_numbers_keys, .ref h_t_numbers_aboves, .ref h_t_numbers_rounds, .int t_numbers_round, .int (x7.2.2.2.1), .int (x7.2.2.2.2.1), .long (x7.2.2.2.2.2)])), (h_t_desk_powers, .inl (cI, 8, .inl a_t_desk_powers)), (h_t_numbers_keys, .inl (cJ, 1024, .inr (.inl (x7.2.1)))), (h_t_numbers_aboves, .inl (cJ, 1024, .inr (.inl (x7.2.2.1))))] [0, 1, 2, 3, 4, 5, 6, 7, 8, 9, 11, 12, 13, 14, 15, 16, 17, 18] 19 rfl rfl rfl (by decide +kernel) rfl (fun hp8 H locs hP hD hS => ?_)
      refine lv_aload_n hx hb dX8_hold_34 rfl (lv_at hl 1 rfl) ?_
      refine va_get (D := G) (ci := 7) (v := .ref h_t_desk) (C := RX8) (T := TX8) (N := 9) hx hb hts hinX8 hown hK hP 0 rfl rfl 0 (by decide) (hts (.fieldLink RX8 12 "MarkedCurves" "desk" "LMarkedCurves$Desk;") (List.mem_of_getElem? (i := 1) (by decide +kernel))) (fun _ h9 => h9) rfl dX8_hold_35 ?_
      refine va_get (D := G) (ci := 1) (v := .int t_desk_size) (C := RX1) (T := TX1) (N := 5) hx hb hts hinX1 hown hK hP 14 rfl rfl 1 (by decide) (hts (.fieldLink RX8 73 "MarkedCurves$Desk" "size" "I") (List.mem_of_getElem? (i := 2) (by decide +kernel))) (fun _ h9 => h9) rfl dX8_hold_38 ?_
      cases h
      exact k_iret hx hb hr hlocks hP hS rfl dX8_hold_41
    have h := it_n h c4
    refine lv_aload_n hx hb dX8_hold_42 rfl (lv_at hl 0 rfl) ?_
    refine lv_aload_n hx hb dX8_hold_43 rfl (lv_at hl 1 rfl) ?_
    refine va_get (D := G) (ci := 7) (v := .ref h_t_desk) (C := RX8) (T := TX8) (N := 9) hx hb hts hinX8 hown hK hP 0 rfl rfl 0 (by decide) (hts (.fieldLink RX8 12 "MarkedCurves" "desk" "LMarkedCurves$Desk;") (List.mem_of_getElem? (i := 1) (by decide +kernel))) (fun _ h9 => h9) rfl dX8_hold_44 ?_
    refine va_get (D := G) (ci := 1) (v := .long t_desk_tree) (C := RX1) (T := TX1) (N := 5) hx hb hts hinX1 hown hK hP 14 rfl rfl 4 (by decide) (hts (.fieldLink RX8 156 "MarkedCurves$Desk" "tree" "J") (List.mem_of_getElem? (i := 3) (by decide +kernel))) (fun _ h9 => h9) rfl dX8_hold_47 ?_
    refine lv_aload_n hx hb dX8_hold_50 rfl (lv_at hl 1 rfl) ?_
    refine va_get (D := G) (ci := 7) (v := .ref h_t_desk) (C := RX8) (T := TX8) (N := 9) hx hb hts hinX8 hown hK hP 0 rfl rfl 0 (by decide) (hts (.fieldLink RX8 12 "MarkedCurves" "desk" "LMarkedCurves$Desk;") (List.mem_of_getElem? (i := 1) (by decide +kernel))) (fun _ h9 => h9) rfl dX8_hold_51 ?_
    refine va_get (D := G) (ci := 1) (v := .int t_desk_limit) (C := RX1) (T := TX1) (N := 5) hx hb hts hinX1 hown hK hP 14 rfl rfl 3 (by decide) (hts (.fieldLink RX8 153 "MarkedCurves$Desk" "limit" "I") (List.mem_of_getElem? (i := 4) (by decide +kernel))) (fun _ h9 => h9) rfl dX8_hold_54 ?_
    obtain ⟨x5, hx5, h⟩ := bd_e h
    try dsimp only at h
    refine k_Vv (n := 2) (As := [.long t_desk_tree, .int t_desk_limit]) (rest := []) hx hb hml hown hts (c_X2_holdTree l G cI cJ cD cH H.size (d_t_holders 4) (q_t_holders 4) (t_holders_sort 4) (t_holders_tree 4) (t_holders_limit 4) (t_holders_above 4) (t_holders_size 4) t_desk_tree t_desk_limit (x5.1) (x5.2.1) (x5.2.2) hx5) gX8_hold_X2_holdTree rfl rfl rfl (by decide +kernel) ⟨by first | exact Nat.le_of_ble_eq_true rfl | (simp only [headSpec]; omega), by first | exact Nat.le_of_ble_eq_true rfl | (simp only [headSpec]; omega)⟩ hK hP hD hS hA [10] (by decide) rfl rfl (ci := 2) rfl rfl rfl rfl rfl hl.1 (Nat.le_of_ble_eq_true rfl) dX8_hold_57 ⟨Nat.zero_le _, Nat.zero_le _⟩ [(h_t, .inr (7, [.ref h_t_desk, .ref h_t_imageDesk, .ref h_t_deeds, .ref h_t_numbers, .ref h_t_tape, .ref h_t_reader, .ref h_t_speller, .ref h_t_holders, .int t_imageKept])), (h_t_holders, .inl (cH, 6, .inr (.inr (.inr (.inr (fun i => some (d_t_holders i))))))), ((d_t_holders 0), .inr (2, [.int ((va_up t_holders_sort 4 (x5.1)) 0), .long ((va_up t_holders_tree 4 (x5.2.1)) 0), .int ((va_up t_holders_limit 4 (x5.2.2)) 0), .ref (q_t_holders 0), .long (t_holders_above 0), .int (t_holders_size 0)])), ((q_t_holders 0), .inl (cI, 20, .inl (a_t_holders 0))), ((d_t_holders 1), .inr (2, [.int ((va_up t_holders_sort 4 (x5.1)) 1), .long ((va_up t_holders_tree 4 (x5.2.1)) 1), .int ((va_up t_holders_limit 4 (x5.2.2)) 1), .ref (q_t_holders 1), .long (t_holders_above 1), .int (t_holders_size 1)])), ((q_t_holders 1), .inl (cI, 20, .inl (a_t_holders 1))), ((d_t_holders 2), .inr (2, [.int ((va_up t_holders_sort 4 (x5.1)) 2), .long ((va_up t_holders_tree 4 (x5.2.1)) 2), .int ((va_up t_holders_limit 4 (x5.2.2)) 2), .ref (q_t_holders 2), .long (t_holders_above 2), .int (t_holders_size 2)])), ((q_t_holders 2), .inl (cI, 20, .inl (a_t_holders 2))), ((d_t_holders 3), .inr (2, [.int ((va_up t_holders_sort 4 (x5.1)) 3), .long ((va_up t_holders_tree 4 (x5.2.1)) 3), .int ((va_up t_holders_limit 4 (x5.2.2)) 3), .ref (q_t_holders 3), .long (t_holders_above 3), .int (t_holders_size 3)])), ((q_t_holders 3), .inl (cI, 20, .inl (a_t_holders 3))), ((d_t_holders 4), .inr (2, [.int ((va_up t_holders_sort 4 (x5.1)) 4), .long ((va_up t_holders_tree 4 (x5.2.1)) 4), .int ((va_up t_holders_limit 4 (x5.2.2)) 4), .ref (q_t_holders 4), .long (t_holders_above 4), .int (t_holders_size 4)])), ((q_t_holders 4), .inl (cI, 20, .inl (a_t_holders 4))), ((d_t_holders 5), .inr (2, [.int ((va_up t_holders_sort 4 (x5.1)) 5), .long ((va_up t_holders_tree 4 (x5.2.1)) 5), .int ((va_up t_holders_limit 4 (x5.2.2)) 5), .ref (q_t_holders 5), .long (t_holders_above 5), .int (t_holders_size 5)])), ((q_t_holders 5), .inl (cI, 20, .inl (a_t_holders 5))), (h_t_desk, .inr (1, [.int t_desk_genus, .int t_desk_size, .ref h_t_desk_powers, .int t_desk_limit, .long t_desk_tree])), (h_t_numbers, .inr (3, [.ref h_t_numbers_keys, .ref h_t_numbers_aboves, .ref h_t_numbers_rounds, .int t_numbers_round, .int t_numbers_size, .int t_numbers_sum, .long t_numbers_gathered])), (h_t_desk_powers, .inl (cI, 8, .inl a_t_desk_powers)), (h_t_numbers_keys, .inl (cJ, 1024, .inr (.inl a_t_numbers_keys))), (h_t_numbers_aboves, .inl (cJ, 1024, .inr (.inl a_t_numbers_aboves)))] [0, 1, 2, 3, 4, 5, 6, 7, 8, 9, 11, 12, 13, 14, 15, 16, 17, 18] 19 rfl rfl rfl (by decide +kernel) rfl (fun hp5 H locs hP hD hS => ?_)
    refine lv_aload_n hx hb dX8_hold_60 rfl (lv_at hl 1 rfl) ?_
    refine va_get (D := G) (ci := 7) (v := .ref h_t_desk) (C := RX8) (T := TX8) (N := 9) hx hb hts hinX8 hown hK hP 0 rfl rfl 0 (by decide) (hts (.fieldLink RX8 12 "MarkedCurves" "desk" "LMarkedCurves$Desk;") (List.mem_of_getElem? (i := 1) (by decide +kernel))) (fun _ h9 => h9) rfl dX8_hold_61 ?_
    refine va_get (D := G) (ci := 1) (v := .long t_desk_tree) (C := RX1) (T := TX1) (N := 5) hx hb hts hinX1 hown hK hP 14 rfl rfl 4 (by decide) (hts (.fieldLink RX8 156 "MarkedCurves$Desk" "tree" "J") (List.mem_of_getElem? (i := 3) (by decide +kernel))) (fun _ h9 => h9) rfl dX8_hold_64 ?_
    obtain ⟨x6, hx6, h⟩ := bd_e h
    try dsimp only at h
    refine k_SiU (n := 1) (As := [.long t_desk_tree]) (rest := []) hx hb hml hown hts (c_X6_sizeOf l G cI cJ cD cH H.size t_desk_tree x6 hx6) gX8_hold_X6_sizeOf rfl rfl rfl (by decide +kernel) ⟨by first | exact Nat.le_of_ble_eq_true rfl | (simp only [headSpec]; omega), by first | exact Nat.le_of_ble_eq_true rfl | (simp only [headSpec]; omega)⟩ hK hP hD hS hA [] (by decide) rfl rfl rfl hl.1 (Nat.le_of_ble_eq_true rfl) dX8_hold_67 ⟨Nat.zero_le _, Nat.zero_le _⟩ (fun hp6 H locs hP hS => ?_)
    cases h
    exact k_iret hx hb hr hlocks hP hS rfl dX8_hold_70
  · refine k_VqU (n := 1) (As := [.int p0]) (rest := []) hx hb hml hown hts (c_X8_holderAt l G cI cJ cD cH s.heap.size h_t h_t_holders h_t_desk h_t_imageDesk h_t_deeds h_t_numbers h_t_tape h_t_reader h_t_speller d_t_holders q_t_holders a_t_holders t_holders_sort t_holders_tree t_holders_limit t_holders_above t_holders_size t_imageKept p0 5 hx1) gX8_hold_X8_holderAt rfl rfl rfl (by decide +kernel) ⟨by first | exact Nat.le_of_ble_eq_true rfl | (simp only [headSpec]; omega), by first | exact Nat.le_of_ble_eq_true rfl | (simp only [headSpec]; omega)⟩ hK hP hD hS hA [0, 1, 2, 3, 4, 5, 6, 7, 8, 9, 10, 11, 12, 13] (by decide) rfl (ci := 7) rfl rfl rfl rfl rfl hl.1 (Nat.le_of_ble_eq_true rfl) dX8_hold_2 ⟨Nat.zero_le _, Nat.zero_le _⟩ (fun hp1 H locs hP hS => ?_)
    refine W.eq (g2 := F0 m 5 ls [.ref (d_t_holders 5)]) rfl ?_
    have h := it_n h (by decide)
    refine lv_astore_n (lv' := [(3, .ref (d_t_holders 5)), (0, .ref h_t), (1, .int p0), (2, .int p1)]) hx hb dX8_hold_5 rfl hl (by decide) rfl (fun ls hl => ?_)
    refine lv_aload_n hx hb dX8_hold_6 rfl (lv_at hl 0 rfl) ?_
    refine lv_ifnull hx hb dX8_hold_7 ?_
    refine lv_iload_n hx hb dX8_hold_10 rfl (lv_at hl 3 rfl) ?_
    refine lv_if_lt (tgt := 19) hx hb dX8_hold_11 (by decide) (fun c2 => ?_) (fun c2 => ?_)
    · have h := it_p h c2
      refine lv_iconst (v := (-1 : Int32)) hx hb dX8_hold_19 (by decide) ?_
      cases h
      exact k_iret hx hb hr hlocks hP hS rfl dX8_hold_20
    have h := it_n h c2
    refine lv_iload_n hx hb dX8_hold_14 rfl (lv_at hl 3 rfl) ?_
    refine lv_iconst (v := (1 : Int32)) hx hb dX8_hold_15 (by decide) ?_
    refine lv_icmp_le (tgt := 21) hx hb dX8_hold_16 (by decide) (fun c3 => ?_) (fun c3 => ?_)
    rotate_left
    · have h := it_n h c3
      refine lv_iconst (v := (-1 : Int32)) hx hb dX8_hold_19 (by decide) ?_
      cases h
      exact k_iret hx hb hr hlocks hP hS rfl dX8_hold_20
    have h := it_p h c3
    refine lv_iload_n hx hb dX8_hold_21 rfl (lv_at hl 3 rfl) ?_
    refine lv_if_ne (tgt := 42) hx hb dX8_hold_22 (by decide) (fun c4 => ?_) (fun c4 => ?_)
    rotate_left
    · have h := it_p h c4
      refine lv_aload_n hx hb dX8_hold_25 rfl (lv_at hl 0 rfl) ?_
      refine lv_aload_n hx hb dX8_hold_26 rfl (lv_at hl 1 rfl) ?_
      refine lv_iconst (v := (0 : Int32)) hx hb dX8_hold_27 (by decide) ?_
      obtain ⟨x7, hx7, h⟩ := bd_e h
      try dsimp only at h
      refine k_Vl (n := 1) (As := [.int (0 : Int32)]) (rest := [.ref (d_t_holders 5)]) hx hb hml hown hts (c_X8_number l G cI cJ cD cH H.size h_t h_t_numbers h_t_desk h_t_desk_powers h_t_numbers_keys h_t_numbers_aboves h_t_imageDesk h_t_deeds h_t_tape h_t_reader h_t_speller h_t_holders h_t_numbers_rounds t_imageKept t_numbers_round t_numbers_size t_numbers_sum t_numbers_gathered t_desk_genus t_desk_size t_desk_limit t_desk_tree a_t_desk_powers a_t_numbers_keys a_t_numbers_aboves (0 : Int32) (x7.1) (x7.2.1) (x7.2.2.1) (x7.2.2.2.1) (x7.2.2.2.2.1) (x7.2.2.2.2.2) hx7) gX8_hold_X8_number rfl rfl rfl (by decide +kernel) ⟨by first | exact Nat.le_of_ble_eq_true rfl | (simp only [headSpec]; omega), by first | exact Nat.le_of_ble_eq_true rfl | (simp only [headSpec]; omega)⟩ hK hP hD hS hA [0, 15, 14, 16, 17, 18] (by decide) rfl rfl (ci := 7) rfl rfl rfl rfl rfl hl.1 (Nat.le_of_ble_eq_true rfl) dX8_hold_28 ⟨Nat.zero_le _, Nat.zero_le _⟩ [(h_t, .inr (7, [.ref h_t_desk, .ref h_t_imageDesk, .ref h_t_deeds, .ref h_t_numbers, .ref h_t_tape, .ref h_t_reader, .ref h_t_speller, .ref h_t_holders, .int t_imageKept])), (h_t_holders, .inl (cH, 6, .inr (.inr (.inr (.inr (fun i => some (d_t_holders i))))))), ((d_t_holders 0), .inr (2, [.int (t_holders_sort 0), .long (t_holders_tree 0), .int (t_holders_limit 0), .ref (q_t_holders 0), .long (t_holders_above 0), .int (t_holders_size 0)])), ((q_t_holders 0), .inl (cI, 20, .inl (a_t_holders 0))), ((d_t_holders 1), .inr (2, [.int (t_holders_sort 1), .long (t_holders_tree 1), .int (t_holders_limit 1), .ref (q_t_holders 1), .long (t_holders_above 1), .int (t_holders_size 1)])), ((q_t_holders 1), .inl (cI, 20, .inl (a_t_holders 1))), ((d_t_holders 2), .inr (2, [.int (t_holders_sort 2), .long (t_holders_tree 2), .int (t_holders_limit 2), .ref (q_t_holders 2), .long (t_holders_above 2), .int (t_holders_size 2)])), ((q_t_holders 2), .inl (cI, 20, .inl (a_t_holders 2))), ((d_t_holders 3), .inr (2, [.int (t_holders_sort 3), .long (t_holders_tree 3), .int (t_holders_limit 3), .ref (q_t_holders 3), .long (t_holders_above 3), .int (t_holders_size 3)])), ((q_t_holders 3), .inl (cI, 20, .inl (a_t_holders 3))), ((d_t_holders 4), .inr (2, [.int (t_holders_sort 4), .long (t_holders_tree 4), .int (t_holders_limit 4), .ref (q_t_holders 4), .long (t_holders_above 4), .int (t_holders_size 4)])), ((q_t_holders 4), .inl (cI, 20, .inl (a_t_holders 4))), ((d_t_holders 5), .inr (2, [.int (t_holders_sort 5), .long (t_holders_tree 5), .int (t_holders_limit 5), .ref (q_t_holders 5), .long (t_holders_above 5), .int (t_holders_size 5)])), ((q_t_holders 5), .inl (cI, 20, .inl (a_t_holders 5))), (h_t_desk, .inr (1, [.int t_desk_genus, .int t_desk_size, .ref h_t_desk_powers, .int t_desk_limit, .long t_desk_tree])), (h_t_numbers, .inr (3, [.ref h_t_numbers_keys, .ref h_t_numbers_aboves, .ref h_t_numbers_rounds, .int t_numbers_round, .int (x7.2.2.2.1), .int (x7.2.2.2.2.1), .long (x7.2.2.2.2.2)])), (h_t_desk_powers, .inl (cI, 8, .inl a_t_desk_powers)), (h_t_numbers_keys, .inl (cJ, 1024, .inr (.inl (x7.2.1)))), (h_t_numbers_aboves, .inl (cJ, 1024, .inr (.inl (x7.2.2.1))))] [1, 2, 3, 4, 5, 6, 7, 8, 9, 10, 11, 12, 13] 19 rfl rfl rfl (by decide +kernel) rfl (fun hp7 H locs hP hD hS => ?_)
      obtain ⟨x8, hx8, h⟩ := bd_e h
      try dsimp only at h
      refine k_Vv (n := 1) (As := [.long (x7.1)]) (rest := []) hx hb hml hown hts (c_X2_holdNumber l G cI cJ cD cH H.size (d_t_holders 5) (q_t_holders 5) (t_holders_sort 5) (t_holders_tree 5) (t_holders_limit 5) (t_holders_above 5) (t_holders_size 5) (x7.1) (x8.1) (x8.2) hx8) gX8_hold_X2_holdNumber rfl rfl rfl (by decide +kernel) ⟨by first | exact Nat.le_of_ble_eq_true rfl | (simp only [headSpec]; omega), by first | exact Nat.le_of_ble_eq_true rfl | (simp only [headSpec]; omega)⟩ hK hP hD hS hA [12] (by decide) rfl rfl (ci := 2) rfl rfl rfl rfl rfl hl.1 (Nat.le_of_ble_eq_true rfl) dX8_hold_31 ⟨Nat.zero_le _, Nat.zero_le _⟩ [(h_t, .inr (7, [.ref h_t_desk, .ref h_t_imageDesk, .ref h_t_deeds, .ref h_t_numbers, .ref h_t_tape, .ref h_t_reader, .ref h_t_speller, .ref h_t_holders, .int t_imageKept])), (h_t_holders, .inl (cH, 6, .inr (.inr (.inr (.inr (fun i => some (d_t_holders i))))))), ((d_t_holders 0), .inr (2, [.int ((va_up t_holders_sort 5 (x8.1)) 0), .long (t_holders_tree 0), .int (t_holders_limit 0), .ref (q_t_holders 0), .long ((va_up t_holders_above 5 (x8.2)) 0), .int (t_holders_size 0)])), ((q_t_holders 0), .inl (cI, 20, .inl (a_t_holders 0))), ((d_t_holders 1), .inr (2, [.int ((va_up t_holders_sort 5 (x8.1)) 1), .long (t_holders_tree 1), .int (t_holders_limit 1), .ref (q_t_holders 1), .long ((va_up t_holders_above 5 (x8.2)) 1), .int (t_holders_size 1)])), ((q_t_holders 1), .inl (cI, 20, .inl (a_t_holders 1))), ((d_t_holders 2), .inr (2, [.int ((va_up t_holders_sort 5 (x8.1)) 2), .long (t_holders_tree 2), .int (t_holders_limit 2), .ref (q_t_holders 2), .long ((va_up t_holders_above 5 (x8.2)) 2), .int (t_holders_size 2)])), ((q_t_holders 2), .inl (cI, 20, .inl (a_t_holders 2))), ((d_t_holders 3), .inr (2, [.int ((va_up t_holders_sort 5 (x8.1)) 3), .long (t_holders_tree 3), .int (t_holders_limit 3), .ref (q_t_holders 3), .long ((va_up t_holders_above 5 (x8.2)) 3), .int (t_holders_size 3)])), ((q_t_holders 3), .inl (cI, 20, .inl (a_t_holders 3))), ((d_t_holders 4), .inr (2, [.int ((va_up t_holders_sort 5 (x8.1)) 4), .long (t_holders_tree 4), .int (t_holders_limit 4), .ref (q_t_holders 4), .long ((va_up t_holders_above 5 (x8.2)) 4), .int (t_holders_size 4)])), ((q_t_holders 4), .inl (cI, 20, .inl (a_t_holders 4))), ((d_t_holders 5), .inr (2, [.int ((va_up t_holders_sort 5 (x8.1)) 5), .long (t_holders_tree 5), .int (t_holders_limit 5), .ref (q_t_holders 5), .long ((va_up t_holders_above 5 (x8.2)) 5), .int (t_holders_size 5)])), ((q_t_holders 5), .inl (cI, 20, .inl (a_t_holders 5))), (h_t_desk, .inr (1, [.int t_desk_genus, .int t_desk_size, .ref h_t_desk_powers, .int t_desk_limit, .long t_desk_tree])), (h_t_numbers, .inr (3, [.ref h_t_numbers_keys, .ref h_t_numbers_aboves, .ref h_t_numbers_rounds, .int t_numbers_round, .int (x7.2.2.2.1), .int (x7.2.2.2.2.1), .long (x7.2.2.2.2.2)])), (h_t_desk_powers, .inl (cI, 8, .inl a_t_desk_powers)), (h_t_numbers_keys, .inl (cJ, 1024, .inr (.inl (x7.2.1)))), (h_t_numbers_aboves, .inl (cJ, 1024, .inr (.inl (x7.2.2.1))))] [0, 1, 2, 3, 4, 5, 6, 7, 8, 9, 10, 11, 13, 14, 15, 16, 17, 18] 19 rfl rfl rfl (by decide +kernel) rfl (fun hp8 H locs hP hD hS => ?_)
      refine lv_aload_n hx hb dX8_hold_34 rfl (lv_at hl 1 rfl) ?_
      refine va_get (D := G) (ci := 7) (v := .ref h_t_desk) (C := RX8) (T := TX8) (N := 9) hx hb hts hinX8 hown hK hP 0 rfl rfl 0 (by decide) (hts (.fieldLink RX8 12 "MarkedCurves" "desk" "LMarkedCurves$Desk;") (List.mem_of_getElem? (i := 1) (by decide +kernel))) (fun _ h9 => h9) rfl dX8_hold_35 ?_
      refine va_get (D := G) (ci := 1) (v := .int t_desk_size) (C := RX1) (T := TX1) (N := 5) hx hb hts hinX1 hown hK hP 14 rfl rfl 1 (by decide) (hts (.fieldLink RX8 73 "MarkedCurves$Desk" "size" "I") (List.mem_of_getElem? (i := 2) (by decide +kernel))) (fun _ h9 => h9) rfl dX8_hold_38 ?_
      cases h
      exact k_iret hx hb hr hlocks hP hS rfl dX8_hold_41
    have h := it_n h c4
    refine lv_aload_n hx hb dX8_hold_42 rfl (lv_at hl 0 rfl) ?_
    refine lv_aload_n hx hb dX8_hold_43 rfl (lv_at hl 1 rfl) ?_
    refine va_get (D := G) (ci := 7) (v := .ref h_t_desk) (C := RX8) (T := TX8) (N := 9) hx hb hts hinX8 hown hK hP 0 rfl rfl 0 (by decide) (hts (.fieldLink RX8 12 "MarkedCurves" "desk" "LMarkedCurves$Desk;") (List.mem_of_getElem? (i := 1) (by decide +kernel))) (fun _ h9 => h9) rfl dX8_hold_44 ?_
    refine va_get (D := G) (ci := 1) (v := .long t_desk_tree) (C := RX1) (T := TX1) (N := 5) hx hb hts hinX1 hown hK hP 14 rfl rfl 4 (by decide) (hts (.fieldLink RX8 156 "MarkedCurves$Desk" "tree" "J") (List.mem_of_getElem? (i := 3) (by decide +kernel))) (fun _ h9 => h9) rfl dX8_hold_47 ?_
    refine lv_aload_n hx hb dX8_hold_50 rfl (lv_at hl 1 rfl) ?_
    refine va_get (D := G) (ci := 7) (v := .ref h_t_desk) (C := RX8) (T := TX8) (N := 9) hx hb hts hinX8 hown hK hP 0 rfl rfl 0 (by decide) (hts (.fieldLink RX8 12 "MarkedCurves" "desk" "LMarkedCurves$Desk;") (List.mem_of_getElem? (i := 1) (by decide +kernel))) (fun _ h9 => h9) rfl dX8_hold_51 ?_
    refine va_get (D := G) (ci := 1) (v := .int t_desk_limit) (C := RX1) (T := TX1) (N := 5) hx hb hts hinX1 hown hK hP 14 rfl rfl 3 (by decide) (hts (.fieldLink RX8 153 "MarkedCurves$Desk" "limit" "I") (List.mem_of_getElem? (i := 4) (by decide +kernel))) (fun _ h9 => h9) rfl dX8_hold_54 ?_
    obtain ⟨x5, hx5, h⟩ := bd_e h
    try dsimp only at h
    refine k_Vv (n := 2) (As := [.long t_desk_tree, .int t_desk_limit]) (rest := []) hx hb hml hown hts (c_X2_holdTree l G cI cJ cD cH H.size (d_t_holders 5) (q_t_holders 5) (t_holders_sort 5) (t_holders_tree 5) (t_holders_limit 5) (t_holders_above 5) (t_holders_size 5) t_desk_tree t_desk_limit (x5.1) (x5.2.1) (x5.2.2) hx5) gX8_hold_X2_holdTree rfl rfl rfl (by decide +kernel) ⟨by first | exact Nat.le_of_ble_eq_true rfl | (simp only [headSpec]; omega), by first | exact Nat.le_of_ble_eq_true rfl | (simp only [headSpec]; omega)⟩ hK hP hD hS hA [12] (by decide) rfl rfl (ci := 2) rfl rfl rfl rfl rfl hl.1 (Nat.le_of_ble_eq_true rfl) dX8_hold_57 ⟨Nat.zero_le _, Nat.zero_le _⟩ [(h_t, .inr (7, [.ref h_t_desk, .ref h_t_imageDesk, .ref h_t_deeds, .ref h_t_numbers, .ref h_t_tape, .ref h_t_reader, .ref h_t_speller, .ref h_t_holders, .int t_imageKept])), (h_t_holders, .inl (cH, 6, .inr (.inr (.inr (.inr (fun i => some (d_t_holders i))))))), ((d_t_holders 0), .inr (2, [.int ((va_up t_holders_sort 5 (x5.1)) 0), .long ((va_up t_holders_tree 5 (x5.2.1)) 0), .int ((va_up t_holders_limit 5 (x5.2.2)) 0), .ref (q_t_holders 0), .long (t_holders_above 0), .int (t_holders_size 0)])), ((q_t_holders 0), .inl (cI, 20, .inl (a_t_holders 0))), ((d_t_holders 1), .inr (2, [.int ((va_up t_holders_sort 5 (x5.1)) 1), .long ((va_up t_holders_tree 5 (x5.2.1)) 1), .int ((va_up t_holders_limit 5 (x5.2.2)) 1), .ref (q_t_holders 1), .long (t_holders_above 1), .int (t_holders_size 1)])), ((q_t_holders 1), .inl (cI, 20, .inl (a_t_holders 1))), ((d_t_holders 2), .inr (2, [.int ((va_up t_holders_sort 5 (x5.1)) 2), .long ((va_up t_holders_tree 5 (x5.2.1)) 2), .int ((va_up t_holders_limit 5 (x5.2.2)) 2), .ref (q_t_holders 2), .long (t_holders_above 2), .int (t_holders_size 2)])), ((q_t_holders 2), .inl (cI, 20, .inl (a_t_holders 2))), ((d_t_holders 3), .inr (2, [.int ((va_up t_holders_sort 5 (x5.1)) 3), .long ((va_up t_holders_tree 5 (x5.2.1)) 3), .int ((va_up t_holders_limit 5 (x5.2.2)) 3), .ref (q_t_holders 3), .long (t_holders_above 3), .int (t_holders_size 3)])), ((q_t_holders 3), .inl (cI, 20, .inl (a_t_holders 3))), ((d_t_holders 4), .inr (2, [.int ((va_up t_holders_sort 5 (x5.1)) 4), .long ((va_up t_holders_tree 5 (x5.2.1)) 4), .int ((va_up t_holders_limit 5 (x5.2.2)) 4), .ref (q_t_holders 4), .long (t_holders_above 4), .int (t_holders_size 4)])), ((q_t_holders 4), .inl (cI, 20, .inl (a_t_holders 4))), ((d_t_holders 5), .inr (2, [.int ((va_up t_holders_sort 5 (x5.1)) 5), .long ((va_up t_holders_tree 5 (x5.2.1)) 5), .int ((va_up t_holders_limit 5 (x5.2.2)) 5), .ref (q_t_holders 5), .long (t_holders_above 5), .int (t_holders_size 5)])), ((q_t_holders 5), .inl (cI, 20, .inl (a_t_holders 5))), (h_t_desk, .inr (1, [.int t_desk_genus, .int t_desk_size, .ref h_t_desk_powers, .int t_desk_limit, .long t_desk_tree])), (h_t_numbers, .inr (3, [.ref h_t_numbers_keys, .ref h_t_numbers_aboves, .ref h_t_numbers_rounds, .int t_numbers_round, .int t_numbers_size, .int t_numbers_sum, .long t_numbers_gathered])), (h_t_desk_powers, .inl (cI, 8, .inl a_t_desk_powers)), (h_t_numbers_keys, .inl (cJ, 1024, .inr (.inl a_t_numbers_keys))), (h_t_numbers_aboves, .inl (cJ, 1024, .inr (.inl a_t_numbers_aboves)))] [0, 1, 2, 3, 4, 5, 6, 7, 8, 9, 10, 11, 13, 14, 15, 16, 17, 18] 19 rfl rfl rfl (by decide +kernel) rfl (fun hp5 H locs hP hD hS => ?_)
    refine lv_aload_n hx hb dX8_hold_60 rfl (lv_at hl 1 rfl) ?_
    refine va_get (D := G) (ci := 7) (v := .ref h_t_desk) (C := RX8) (T := TX8) (N := 9) hx hb hts hinX8 hown hK hP 0 rfl rfl 0 (by decide) (hts (.fieldLink RX8 12 "MarkedCurves" "desk" "LMarkedCurves$Desk;") (List.mem_of_getElem? (i := 1) (by decide +kernel))) (fun _ h9 => h9) rfl dX8_hold_61 ?_
    refine va_get (D := G) (ci := 1) (v := .long t_desk_tree) (C := RX1) (T := TX1) (N := 5) hx hb hts hinX1 hown hK hP 14 rfl rfl 4 (by decide) (hts (.fieldLink RX8 156 "MarkedCurves$Desk" "tree" "J") (List.mem_of_getElem? (i := 3) (by decide +kernel))) (fun _ h9 => h9) rfl dX8_hold_64 ?_
    obtain ⟨x6, hx6, h⟩ := bd_e h
    try dsimp only at h
    refine k_SiU (n := 1) (As := [.long t_desk_tree]) (rest := []) hx hb hml hown hts (c_X6_sizeOf l G cI cJ cD cH H.size t_desk_tree x6 hx6) gX8_hold_X6_sizeOf rfl rfl rfl (by decide +kernel) ⟨by first | exact Nat.le_of_ble_eq_true rfl | (simp only [headSpec]; omega), by first | exact Nat.le_of_ble_eq_true rfl | (simp only [headSpec]; omega)⟩ hK hP hD hS hA [] (by decide) rfl rfl rfl hl.1 (Nat.le_of_ble_eq_true rfl) dX8_hold_67 ⟨Nat.zero_le _, Nat.zero_le _⟩ (fun hp6 H locs hP hS => ?_)
    cases h
    exact k_iret hx hb hr hlocks hP hS rfl dX8_hold_70
  · refine k_VqU (n := 1) (As := [.int p0]) (rest := []) hx hb hml hown hts (c_X8_holderAt l G cI cJ cD cH s.heap.size h_t h_t_holders h_t_desk h_t_imageDesk h_t_deeds h_t_numbers h_t_tape h_t_reader h_t_speller d_t_holders q_t_holders a_t_holders t_holders_sort t_holders_tree t_holders_limit t_holders_above t_holders_size t_imageKept p0 6 hx1) gX8_hold_X8_holderAt rfl rfl rfl (by decide +kernel) ⟨by first | exact Nat.le_of_ble_eq_true rfl | (simp only [headSpec]; omega), by first | exact Nat.le_of_ble_eq_true rfl | (simp only [headSpec]; omega)⟩ hK hP hD hS hA [0, 1, 2, 3, 4, 5, 6, 7, 8, 9, 10, 11, 12, 13] (by decide) rfl (ci := 7) rfl rfl rfl rfl rfl hl.1 (Nat.le_of_ble_eq_true rfl) dX8_hold_2 ⟨Nat.zero_le _, Nat.zero_le _⟩ (fun hp1 H locs hP hS => ?_)
    refine W.eq (g2 := F0 m 5 ls [.null]) rfl ?_
    have h := it_p h rfl
    refine lv_astore_nN (lv' := [(3, .null), (0, .ref h_t), (1, .int p0), (2, .int p1)]) hx hb dX8_hold_5 rfl hl (by decide) rfl (fun ls hl => ?_)
    refine lv_aload_nN hx hb dX8_hold_6 rfl (lv_at hl 0 rfl) ?_
    refine lv_ifnullN (tgt := 19) hx hb dX8_hold_7 (by decide) ?_
    refine lv_iconst (v := (-1 : Int32)) hx hb dX8_hold_19 (by decide) ?_
    cases h
    exact k_iret hx hb hr hlocks hP hS rfl dX8_hold_20

/-! X8_lose -/
noncomputable def F_X8_lose (t_holders_sort : Nat → Int32) (p0 : Int32) : Option (Int32 × (Nat → Int32)) :=
  bd (F_X8_holderAt p0) (fun x1 => if x1 = 6 then (some ((-1 : Int32), t_holders_sort)) else (some ((t_holders_sort x1), (va_up t_holders_sort x1 (0 : Int32)))))
theorem in_X8_lose_X2 : ∀ w ∈ wsX20, w ∈ wsX8_lose := mem_r _ [8, 9, 10, 11, 12, 13] (by decide +kernel)
set_option maxHeartbeats 40000000 in
set_option maxRecDepth 100000 in
theorem c_X8_lose (l : Launch) (G : va_G) (cI cJ cD cH : ClassId) (sz : Nat) (h_t : Nat) (h_t_holders : Nat) (h_t_desk : Nat) (h_t_imageDesk : Nat) (h_t_deeds : Nat) (h_t_numbers : Nat) (h_t_tape : Nat) (h_t_reader : Nat) (h_t_speller : Nat) (d_t_holders : Nat → Nat) (q_t_holders : Nat → Nat) (a_t_holders : Nat → Nat → Int32) (t_holders_sort : Nat → Int32) (t_holders_tree : Nat → Int64) (t_holders_limit : Nat → Int32) (t_holders_above : Nat → Int64) (t_holders_size : Nat → Int32) (t_imageKept : Int32) (p0 : Int32) (r0 : Int32) (w0 : Nat → Int32) (hF : F_X8_lose t_holders_sort p0 = some (r0, w0)) : Met l yX8_lose wsX8_lose ({ frames := 1, cells := 0, slots := 0, locals := 21 }) (k_pre G (k_T cI cJ cD cH) [(h_t, .inr (7, [.ref h_t_desk, .ref h_t_imageDesk, .ref h_t_deeds, .ref h_t_numbers, .ref h_t_tape, .ref h_t_reader, .ref h_t_speller, .ref h_t_holders, .int t_imageKept])), (h_t_holders, .inl (cH, 6, .inr (.inr (.inr (.inr (fun i => some (d_t_holders i))))))), ((d_t_holders 0), .inr (2, [.int (t_holders_sort 0), .long (t_holders_tree 0), .int (t_holders_limit 0), .ref (q_t_holders 0), .long (t_holders_above 0), .int (t_holders_size 0)])), ((q_t_holders 0), .inl (cI, 20, .inl (a_t_holders 0))), ((d_t_holders 1), .inr (2, [.int (t_holders_sort 1), .long (t_holders_tree 1), .int (t_holders_limit 1), .ref (q_t_holders 1), .long (t_holders_above 1), .int (t_holders_size 1)])), ((q_t_holders 1), .inl (cI, 20, .inl (a_t_holders 1))), ((d_t_holders 2), .inr (2, [.int (t_holders_sort 2), .long (t_holders_tree 2), .int (t_holders_limit 2), .ref (q_t_holders 2), .long (t_holders_above 2), .int (t_holders_size 2)])), ((q_t_holders 2), .inl (cI, 20, .inl (a_t_holders 2))), ((d_t_holders 3), .inr (2, [.int (t_holders_sort 3), .long (t_holders_tree 3), .int (t_holders_limit 3), .ref (q_t_holders 3), .long (t_holders_above 3), .int (t_holders_size 3)])), ((q_t_holders 3), .inl (cI, 20, .inl (a_t_holders 3))), ((d_t_holders 4), .inr (2, [.int (t_holders_sort 4), .long (t_holders_tree 4), .int (t_holders_limit 4), .ref (q_t_holders 4), .long (t_holders_above 4), .int (t_holders_size 4)])), ((q_t_holders 4), .inl (cI, 20, .inl (a_t_holders 4))), ((d_t_holders 5), .inr (2, [.int (t_holders_sort 5), .long (t_holders_tree 5), .int (t_holders_limit 5), .ref (q_t_holders 5), .long (t_holders_above 5), .int (t_holders_size 5)])), ((q_t_holders 5), .inl (cI, 20, .inl (a_t_holders 5)))] sz [.ref h_t, .int p0]) (va_Qi (fun r (_ : Unit) => r = r0 ∧ True) (fun _ t => va_P G vwCl [(h_t, .inr (7, [.ref h_t_desk, .ref h_t_imageDesk, .ref h_t_deeds, .ref h_t_numbers, .ref h_t_tape, .ref h_t_reader, .ref h_t_speller, .ref h_t_holders, .int t_imageKept])), (h_t_holders, .inl (cH, 6, .inr (.inr (.inr (.inr (fun i => some (d_t_holders i))))))), ((d_t_holders 0), .inr (2, [.int (w0 0), .long (t_holders_tree 0), .int (t_holders_limit 0), .ref (q_t_holders 0), .long (t_holders_above 0), .int (t_holders_size 0)])), ((q_t_holders 0), .inl (cI, 20, .inl (a_t_holders 0))), ((d_t_holders 1), .inr (2, [.int (w0 1), .long (t_holders_tree 1), .int (t_holders_limit 1), .ref (q_t_holders 1), .long (t_holders_above 1), .int (t_holders_size 1)])), ((q_t_holders 1), .inl (cI, 20, .inl (a_t_holders 1))), ((d_t_holders 2), .inr (2, [.int (w0 2), .long (t_holders_tree 2), .int (t_holders_limit 2), .ref (q_t_holders 2), .long (t_holders_above 2), .int (t_holders_size 2)])), ((q_t_holders 2), .inl (cI, 20, .inl (a_t_holders 2))), ((d_t_holders 3), .inr (2, [.int (w0 3), .long (t_holders_tree 3), .int (t_holders_limit 3), .ref (q_t_holders 3), .long (t_holders_above 3), .int (t_holders_size 3)])), ((q_t_holders 3), .inl (cI, 20, .inl (a_t_holders 3))), ((d_t_holders 4), .inr (2, [.int (w0 4), .long (t_holders_tree 4), .int (t_holders_limit 4), .ref (q_t_holders 4), .long (t_holders_above 4), .int (t_holders_size 4)])), ((q_t_holders 4), .inl (cI, 20, .inl (a_t_holders 4))), ((d_t_holders 5), .inr (2, [.int (w0 5), .long (t_holders_tree 5), .int (t_holders_limit 5), .ref (q_t_holders 5), .long (t_holders_above 5), .int (t_holders_size 5)])), ((q_t_holders 5), .inl (cI, 20, .inl (a_t_holders 5)))] t.heap) (va_A [(h_t, .inr (7, [.ref h_t_desk, .ref h_t_imageDesk, .ref h_t_deeds, .ref h_t_numbers, .ref h_t_tape, .ref h_t_reader, .ref h_t_speller, .ref h_t_holders, .int t_imageKept])), (h_t_holders, .inl (cH, 6, .inr (.inr (.inr (.inr (fun i => some (d_t_holders i))))))), ((d_t_holders 0), .inr (2, [.int (t_holders_sort 0), .long (t_holders_tree 0), .int (t_holders_limit 0), .ref (q_t_holders 0), .long (t_holders_above 0), .int (t_holders_size 0)])), ((q_t_holders 0), .inl (cI, 20, .inl (a_t_holders 0))), ((d_t_holders 1), .inr (2, [.int (t_holders_sort 1), .long (t_holders_tree 1), .int (t_holders_limit 1), .ref (q_t_holders 1), .long (t_holders_above 1), .int (t_holders_size 1)])), ((q_t_holders 1), .inl (cI, 20, .inl (a_t_holders 1))), ((d_t_holders 2), .inr (2, [.int (t_holders_sort 2), .long (t_holders_tree 2), .int (t_holders_limit 2), .ref (q_t_holders 2), .long (t_holders_above 2), .int (t_holders_size 2)])), ((q_t_holders 2), .inl (cI, 20, .inl (a_t_holders 2))), ((d_t_holders 3), .inr (2, [.int (t_holders_sort 3), .long (t_holders_tree 3), .int (t_holders_limit 3), .ref (q_t_holders 3), .long (t_holders_above 3), .int (t_holders_size 3)])), ((q_t_holders 3), .inl (cI, 20, .inl (a_t_holders 3))), ((d_t_holders 4), .inr (2, [.int (t_holders_sort 4), .long (t_holders_tree 4), .int (t_holders_limit 4), .ref (q_t_holders 4), .long (t_holders_above 4), .int (t_holders_size 4)])), ((q_t_holders 4), .inl (cI, 20, .inl (a_t_holders 4))), ((d_t_holders 5), .inr (2, [.int (t_holders_sort 5), .long (t_holders_tree 5), .int (t_holders_limit 5), .ref (q_t_holders 5), .long (t_holders_above 5), .int (t_holders_size 5)])), ((q_t_holders 5), .inl (cI, 20, .inl (a_t_holders 5)))] sz)) 0 0 (va_A [(h_t, .inr (7, [.ref h_t_desk, .ref h_t_imageDesk, .ref h_t_deeds, .ref h_t_numbers, .ref h_t_tape, .ref h_t_reader, .ref h_t_speller, .ref h_t_holders, .int t_imageKept])), (h_t_holders, .inl (cH, 6, .inr (.inr (.inr (.inr (fun i => some (d_t_holders i))))))), ((d_t_holders 0), .inr (2, [.int (t_holders_sort 0), .long (t_holders_tree 0), .int (t_holders_limit 0), .ref (q_t_holders 0), .long (t_holders_above 0), .int (t_holders_size 0)])), ((q_t_holders 0), .inl (cI, 20, .inl (a_t_holders 0))), ((d_t_holders 1), .inr (2, [.int (t_holders_sort 1), .long (t_holders_tree 1), .int (t_holders_limit 1), .ref (q_t_holders 1), .long (t_holders_above 1), .int (t_holders_size 1)])), ((q_t_holders 1), .inl (cI, 20, .inl (a_t_holders 1))), ((d_t_holders 2), .inr (2, [.int (t_holders_sort 2), .long (t_holders_tree 2), .int (t_holders_limit 2), .ref (q_t_holders 2), .long (t_holders_above 2), .int (t_holders_size 2)])), ((q_t_holders 2), .inl (cI, 20, .inl (a_t_holders 2))), ((d_t_holders 3), .inr (2, [.int (t_holders_sort 3), .long (t_holders_tree 3), .int (t_holders_limit 3), .ref (q_t_holders 3), .long (t_holders_above 3), .int (t_holders_size 3)])), ((q_t_holders 3), .inl (cI, 20, .inl (a_t_holders 3))), ((d_t_holders 4), .inr (2, [.int (t_holders_sort 4), .long (t_holders_tree 4), .int (t_holders_limit 4), .ref (q_t_holders 4), .long (t_holders_above 4), .int (t_holders_size 4)])), ((q_t_holders 4), .inl (cI, 20, .inl (a_t_holders 4))), ((d_t_holders 5), .inr (2, [.int (t_holders_sort 5), .long (t_holders_tree 5), .int (t_holders_limit 5), .ref (q_t_holders 5), .long (t_holders_above 5), .int (t_holders_size 5)])), ((q_t_holders 5), .inl (cI, 20, .inl (a_t_holders 5)))] sz) := by
  refine Met.ofW (cc := cX8_lose) (maxL := 4) (ret := (some .int)) (by decide) rfl ?_
  intro p e s m args below meth c s₁ B hml hv
  obtain ⟨rfl, hsz, hP, hK, hD0⟩ := hv
  have hx := B.exec
  have hb := B.bytes
  have hr := B.returns
  have hts := atoms_spec (ws := wsX8_lose) B.pre
  have hown : s.vm.findClass RX8 = some m.cls := findClass_of_methodNamed B.named
  have hlocks := B.notSynchronized
  subst hsz
  have hD := hD0.self (sz := s.heap.size)
  generalize hAe : va_A [(h_t, .inr (7, [.ref h_t_desk, .ref h_t_imageDesk, .ref h_t_deeds, .ref h_t_numbers, .ref h_t_tape, .ref h_t_reader, .ref h_t_speller, .ref h_t_holders, .int t_imageKept])), (h_t_holders, .inl (cH, 6, .inr (.inr (.inr (.inr (fun i => some (d_t_holders i))))))), ((d_t_holders 0), .inr (2, [.int (t_holders_sort 0), .long (t_holders_tree 0), .int (t_holders_limit 0), .ref (q_t_holders 0), .long (t_holders_above 0), .int (t_holders_size 0)])), ((q_t_holders 0), .inl (cI, 20, .inl (a_t_holders 0))), ((d_t_holders 1), .inr (2, [.int (t_holders_sort 1), .long (t_holders_tree 1), .int (t_holders_limit 1), .ref (q_t_holders 1), .long (t_holders_above 1), .int (t_holders_size 1)])), ((q_t_holders 1), .inl (cI, 20, .inl (a_t_holders 1))), ((d_t_holders 2), .inr (2, [.int (t_holders_sort 2), .long (t_holders_tree 2), .int (t_holders_limit 2), .ref (q_t_holders 2), .long (t_holders_above 2), .int (t_holders_size 2)])), ((q_t_holders 2), .inl (cI, 20, .inl (a_t_holders 2))), ((d_t_holders 3), .inr (2, [.int (t_holders_sort 3), .long (t_holders_tree 3), .int (t_holders_limit 3), .ref (q_t_holders 3), .long (t_holders_above 3), .int (t_holders_size 3)])), ((q_t_holders 3), .inl (cI, 20, .inl (a_t_holders 3))), ((d_t_holders 4), .inr (2, [.int (t_holders_sort 4), .long (t_holders_tree 4), .int (t_holders_limit 4), .ref (q_t_holders 4), .long (t_holders_above 4), .int (t_holders_size 4)])), ((q_t_holders 4), .inl (cI, 20, .inl (a_t_holders 4))), ((d_t_holders 5), .inr (2, [.int (t_holders_sort 5), .long (t_holders_tree 5), .int (t_holders_limit 5), .ref (q_t_holders 5), .long (t_holders_above 5), .int (t_holders_size 5)])), ((q_t_holders 5), .inl (cI, 20, .inl (a_t_holders 5)))] s.heap.size = A at hD ⊢
  have hA : ∀ q : Nat, s.heap.size ≤ q → A q := fun q h => by rw [← hAe]; exact Or.inr h
  have hS : va_S A s.heap s.heap [] := va_S.rf
  have hl := lv_entry ([.ref h_t, .int p0]) (n := 4) (Nat.le_of_ble_eq_true rfl)
  rw [lg_entry_eq]
  generalize (lg_sl ([.ref h_t, .int p0]) ++ List.replicate (4 - (lg_sl ([.ref h_t, .int p0])).length) Slot.unset).toArray = ls at hl ⊢
  have hl : lv_has ls 4 [(0, .ref h_t), (1, .int p0)] := hl
  have hinX2 : ∀ w ∈ wsX20, w ∈ wsX8_lose := in_X8_lose_X2
  have h := hF
  unfold F_X8_lose at h
  refine lv_aload_n hx hb dX8_lose_0 rfl (lv_at hl 0 rfl) ?_
  refine lv_iload_n hx hb dX8_lose_1 rfl (lv_at hl 1 rfl) ?_
  obtain ⟨x1, hx1, h⟩ := bd_e h
  try dsimp only at h
  have hb1 := k_lt_X8_holderAt hx1
  obtain rfl | rfl | rfl | rfl | rfl | rfl | rfl := k_lt7 hb1
  · refine k_VqU (n := 1) (As := [.int p0]) (rest := []) hx hb hml hown hts (c_X8_holderAt l G cI cJ cD cH s.heap.size h_t h_t_holders h_t_desk h_t_imageDesk h_t_deeds h_t_numbers h_t_tape h_t_reader h_t_speller d_t_holders q_t_holders a_t_holders t_holders_sort t_holders_tree t_holders_limit t_holders_above t_holders_size t_imageKept p0 0 hx1) gX8_lose_X8_holderAt rfl rfl rfl (by decide +kernel) ⟨by first | exact Nat.le_of_ble_eq_true rfl | (simp only [headSpec]; omega), by first | exact Nat.le_of_ble_eq_true rfl | (simp only [headSpec]; omega)⟩ hK hP hD hS hA [0, 1, 2, 3, 4, 5, 6, 7, 8, 9, 10, 11, 12, 13] (by decide) rfl (ci := 7) rfl rfl rfl rfl rfl hl.1 (Nat.le_of_ble_eq_true rfl) dX8_lose_2 ⟨Nat.zero_le _, Nat.zero_le _⟩ (fun hp1 H locs hP hS => ?_)
    refine W.eq (g2 := F0 m 5 ls [.ref (d_t_holders 0)]) rfl ?_
    have h := it_n h (by decide)
    refine lv_astore_n (lv' := [(2, .ref (d_t_holders 0)), (0, .ref h_t), (1, .int p0)]) hx hb dX8_lose_5 rfl hl (by decide) rfl (fun ls hl => ?_)
    refine lv_aload_n hx hb dX8_lose_6 rfl (lv_at hl 0 rfl) ?_
    refine lv_ifnonnull (tgt := 12) hx hb dX8_lose_7 (by decide) ?_
    refine lv_aload_n hx hb dX8_lose_12 rfl (lv_at hl 0 rfl) ?_
    refine va_get (D := G) (ci := 2) (v := .int (t_holders_sort 0)) (C := RX2) (T := TX2) (N := 6) hx hb hts hinX2 hown hK hP 2 rfl rfl 0 (by decide) (hts (.fieldLink RX8 267 "MarkedCurves$Holder" "sort" "I") (List.mem_of_getElem? (i := 1) (by decide +kernel))) (fun _ h9 => h9) rfl dX8_lose_13 ?_
    refine lv_istore_n (lv' := [(3, .int (t_holders_sort 0)), (2, .ref (d_t_holders 0)), (0, .ref h_t), (1, .int p0)]) hx hb dX8_lose_16 rfl hl (by decide) rfl (fun ls hl => ?_)
    refine lv_aload_n hx hb dX8_lose_17 rfl (lv_at hl 1 rfl) ?_
    refine lv_iconst (v := (0 : Int32)) hx hb dX8_lose_18 (by decide) ?_
    refine va_put (D := G) (ci := 2) (v := .int (0 : Int32)) (ty := .int) (C := RX2) (T := TX2) (N := 6) hx hb hts hinX2 tyX2 tyX2_ok nmX2 hown hK hP hD hS 2 rfl rfl 0 (by decide) (hts (.fieldLink RX8 267 "MarkedCurves$Holder" "sort" "I") (List.mem_of_getElem? (i := 1) (by decide +kernel))) (fun _ h9 => h9) rfl (by decide +kernel) rfl rfl (Nat.le_of_ble_eq_true rfl) dX8_lose_19 (fun H locs hP hD hS => ?_)
    have hP : va_P G vwCl [(h_t, .inr (7, [.ref h_t_desk, .ref h_t_imageDesk, .ref h_t_deeds, .ref h_t_numbers, .ref h_t_tape, .ref h_t_reader, .ref h_t_speller, .ref h_t_holders, .int t_imageKept])), (h_t_holders, .inl (cH, 6, .inr (.inr (.inr (.inr (fun i => some (d_t_holders i))))))), ((d_t_holders 0), .inr (2, [.int ((va_up t_holders_sort 0 (0 : Int32)) 0), .long (t_holders_tree 0), .int (t_holders_limit 0), .ref (q_t_holders 0), .long (t_holders_above 0), .int (t_holders_size 0)])), ((q_t_holders 0), .inl (cI, 20, .inl (a_t_holders 0))), ((d_t_holders 1), .inr (2, [.int ((va_up t_holders_sort 0 (0 : Int32)) 1), .long (t_holders_tree 1), .int (t_holders_limit 1), .ref (q_t_holders 1), .long (t_holders_above 1), .int (t_holders_size 1)])), ((q_t_holders 1), .inl (cI, 20, .inl (a_t_holders 1))), ((d_t_holders 2), .inr (2, [.int ((va_up t_holders_sort 0 (0 : Int32)) 2), .long (t_holders_tree 2), .int (t_holders_limit 2), .ref (q_t_holders 2), .long (t_holders_above 2), .int (t_holders_size 2)])), ((q_t_holders 2), .inl (cI, 20, .inl (a_t_holders 2))), ((d_t_holders 3), .inr (2, [.int ((va_up t_holders_sort 0 (0 : Int32)) 3), .long (t_holders_tree 3), .int (t_holders_limit 3), .ref (q_t_holders 3), .long (t_holders_above 3), .int (t_holders_size 3)])), ((q_t_holders 3), .inl (cI, 20, .inl (a_t_holders 3))), ((d_t_holders 4), .inr (2, [.int ((va_up t_holders_sort 0 (0 : Int32)) 4), .long (t_holders_tree 4), .int (t_holders_limit 4), .ref (q_t_holders 4), .long (t_holders_above 4), .int (t_holders_size 4)])), ((q_t_holders 4), .inl (cI, 20, .inl (a_t_holders 4))), ((d_t_holders 5), .inr (2, [.int ((va_up t_holders_sort 0 (0 : Int32)) 5), .long (t_holders_tree 5), .int (t_holders_limit 5), .ref (q_t_holders 5), .long (t_holders_above 5), .int (t_holders_size 5)])), ((q_t_holders 5), .inl (cI, 20, .inl (a_t_holders 5)))] H := hP
    have hD : va_D A [(h_t, .inr (7, [.ref h_t_desk, .ref h_t_imageDesk, .ref h_t_deeds, .ref h_t_numbers, .ref h_t_tape, .ref h_t_reader, .ref h_t_speller, .ref h_t_holders, .int t_imageKept])), (h_t_holders, .inl (cH, 6, .inr (.inr (.inr (.inr (fun i => some (d_t_holders i))))))), ((d_t_holders 0), .inr (2, [.int ((va_up t_holders_sort 0 (0 : Int32)) 0), .long (t_holders_tree 0), .int (t_holders_limit 0), .ref (q_t_holders 0), .long (t_holders_above 0), .int (t_holders_size 0)])), ((q_t_holders 0), .inl (cI, 20, .inl (a_t_holders 0))), ((d_t_holders 1), .inr (2, [.int ((va_up t_holders_sort 0 (0 : Int32)) 1), .long (t_holders_tree 1), .int (t_holders_limit 1), .ref (q_t_holders 1), .long (t_holders_above 1), .int (t_holders_size 1)])), ((q_t_holders 1), .inl (cI, 20, .inl (a_t_holders 1))), ((d_t_holders 2), .inr (2, [.int ((va_up t_holders_sort 0 (0 : Int32)) 2), .long (t_holders_tree 2), .int (t_holders_limit 2), .ref (q_t_holders 2), .long (t_holders_above 2), .int (t_holders_size 2)])), ((q_t_holders 2), .inl (cI, 20, .inl (a_t_holders 2))), ((d_t_holders 3), .inr (2, [.int ((va_up t_holders_sort 0 (0 : Int32)) 3), .long (t_holders_tree 3), .int (t_holders_limit 3), .ref (q_t_holders 3), .long (t_holders_above 3), .int (t_holders_size 3)])), ((q_t_holders 3), .inl (cI, 20, .inl (a_t_holders 3))), ((d_t_holders 4), .inr (2, [.int ((va_up t_holders_sort 0 (0 : Int32)) 4), .long (t_holders_tree 4), .int (t_holders_limit 4), .ref (q_t_holders 4), .long (t_holders_above 4), .int (t_holders_size 4)])), ((q_t_holders 4), .inl (cI, 20, .inl (a_t_holders 4))), ((d_t_holders 5), .inr (2, [.int ((va_up t_holders_sort 0 (0 : Int32)) 5), .long (t_holders_tree 5), .int (t_holders_limit 5), .ref (q_t_holders 5), .long (t_holders_above 5), .int (t_holders_size 5)])), ((q_t_holders 5), .inl (cI, 20, .inl (a_t_holders 5)))] := hD
    refine lv_iload_n hx hb dX8_lose_22 rfl (lv_at hl 0 rfl) ?_
    cases h
    exact k_iret hx hb hr hlocks hP hS rfl dX8_lose_23
  · refine k_VqU (n := 1) (As := [.int p0]) (rest := []) hx hb hml hown hts (c_X8_holderAt l G cI cJ cD cH s.heap.size h_t h_t_holders h_t_desk h_t_imageDesk h_t_deeds h_t_numbers h_t_tape h_t_reader h_t_speller d_t_holders q_t_holders a_t_holders t_holders_sort t_holders_tree t_holders_limit t_holders_above t_holders_size t_imageKept p0 1 hx1) gX8_lose_X8_holderAt rfl rfl rfl (by decide +kernel) ⟨by first | exact Nat.le_of_ble_eq_true rfl | (simp only [headSpec]; omega), by first | exact Nat.le_of_ble_eq_true rfl | (simp only [headSpec]; omega)⟩ hK hP hD hS hA [0, 1, 2, 3, 4, 5, 6, 7, 8, 9, 10, 11, 12, 13] (by decide) rfl (ci := 7) rfl rfl rfl rfl rfl hl.1 (Nat.le_of_ble_eq_true rfl) dX8_lose_2 ⟨Nat.zero_le _, Nat.zero_le _⟩ (fun hp1 H locs hP hS => ?_)
    refine W.eq (g2 := F0 m 5 ls [.ref (d_t_holders 1)]) rfl ?_
    have h := it_n h (by decide)
    refine lv_astore_n (lv' := [(2, .ref (d_t_holders 1)), (0, .ref h_t), (1, .int p0)]) hx hb dX8_lose_5 rfl hl (by decide) rfl (fun ls hl => ?_)
    refine lv_aload_n hx hb dX8_lose_6 rfl (lv_at hl 0 rfl) ?_
    refine lv_ifnonnull (tgt := 12) hx hb dX8_lose_7 (by decide) ?_
    refine lv_aload_n hx hb dX8_lose_12 rfl (lv_at hl 0 rfl) ?_
    refine va_get (D := G) (ci := 2) (v := .int (t_holders_sort 1)) (C := RX2) (T := TX2) (N := 6) hx hb hts hinX2 hown hK hP 4 rfl rfl 0 (by decide) (hts (.fieldLink RX8 267 "MarkedCurves$Holder" "sort" "I") (List.mem_of_getElem? (i := 1) (by decide +kernel))) (fun _ h9 => h9) rfl dX8_lose_13 ?_
    refine lv_istore_n (lv' := [(3, .int (t_holders_sort 1)), (2, .ref (d_t_holders 1)), (0, .ref h_t), (1, .int p0)]) hx hb dX8_lose_16 rfl hl (by decide) rfl (fun ls hl => ?_)
    refine lv_aload_n hx hb dX8_lose_17 rfl (lv_at hl 1 rfl) ?_
    refine lv_iconst (v := (0 : Int32)) hx hb dX8_lose_18 (by decide) ?_
    refine va_put (D := G) (ci := 2) (v := .int (0 : Int32)) (ty := .int) (C := RX2) (T := TX2) (N := 6) hx hb hts hinX2 tyX2 tyX2_ok nmX2 hown hK hP hD hS 4 rfl rfl 0 (by decide) (hts (.fieldLink RX8 267 "MarkedCurves$Holder" "sort" "I") (List.mem_of_getElem? (i := 1) (by decide +kernel))) (fun _ h9 => h9) rfl (by decide +kernel) rfl rfl (Nat.le_of_ble_eq_true rfl) dX8_lose_19 (fun H locs hP hD hS => ?_)
    have hP : va_P G vwCl [(h_t, .inr (7, [.ref h_t_desk, .ref h_t_imageDesk, .ref h_t_deeds, .ref h_t_numbers, .ref h_t_tape, .ref h_t_reader, .ref h_t_speller, .ref h_t_holders, .int t_imageKept])), (h_t_holders, .inl (cH, 6, .inr (.inr (.inr (.inr (fun i => some (d_t_holders i))))))), ((d_t_holders 0), .inr (2, [.int ((va_up t_holders_sort 1 (0 : Int32)) 0), .long (t_holders_tree 0), .int (t_holders_limit 0), .ref (q_t_holders 0), .long (t_holders_above 0), .int (t_holders_size 0)])), ((q_t_holders 0), .inl (cI, 20, .inl (a_t_holders 0))), ((d_t_holders 1), .inr (2, [.int ((va_up t_holders_sort 1 (0 : Int32)) 1), .long (t_holders_tree 1), .int (t_holders_limit 1), .ref (q_t_holders 1), .long (t_holders_above 1), .int (t_holders_size 1)])), ((q_t_holders 1), .inl (cI, 20, .inl (a_t_holders 1))), ((d_t_holders 2), .inr (2, [.int ((va_up t_holders_sort 1 (0 : Int32)) 2), .long (t_holders_tree 2), .int (t_holders_limit 2), .ref (q_t_holders 2), .long (t_holders_above 2), .int (t_holders_size 2)])), ((q_t_holders 2), .inl (cI, 20, .inl (a_t_holders 2))), ((d_t_holders 3), .inr (2, [.int ((va_up t_holders_sort 1 (0 : Int32)) 3), .long (t_holders_tree 3), .int (t_holders_limit 3), .ref (q_t_holders 3), .long (t_holders_above 3), .int (t_holders_size 3)])), ((q_t_holders 3), .inl (cI, 20, .inl (a_t_holders 3))), ((d_t_holders 4), .inr (2, [.int ((va_up t_holders_sort 1 (0 : Int32)) 4), .long (t_holders_tree 4), .int (t_holders_limit 4), .ref (q_t_holders 4), .long (t_holders_above 4), .int (t_holders_size 4)])), ((q_t_holders 4), .inl (cI, 20, .inl (a_t_holders 4))), ((d_t_holders 5), .inr (2, [.int ((va_up t_holders_sort 1 (0 : Int32)) 5), .long (t_holders_tree 5), .int (t_holders_limit 5), .ref (q_t_holders 5), .long (t_holders_above 5), .int (t_holders_size 5)])), ((q_t_holders 5), .inl (cI, 20, .inl (a_t_holders 5)))] H := hP
    have hD : va_D A [(h_t, .inr (7, [.ref h_t_desk, .ref h_t_imageDesk, .ref h_t_deeds, .ref h_t_numbers, .ref h_t_tape, .ref h_t_reader, .ref h_t_speller, .ref h_t_holders, .int t_imageKept])), (h_t_holders, .inl (cH, 6, .inr (.inr (.inr (.inr (fun i => some (d_t_holders i))))))), ((d_t_holders 0), .inr (2, [.int ((va_up t_holders_sort 1 (0 : Int32)) 0), .long (t_holders_tree 0), .int (t_holders_limit 0), .ref (q_t_holders 0), .long (t_holders_above 0), .int (t_holders_size 0)])), ((q_t_holders 0), .inl (cI, 20, .inl (a_t_holders 0))), ((d_t_holders 1), .inr (2, [.int ((va_up t_holders_sort 1 (0 : Int32)) 1), .long (t_holders_tree 1), .int (t_holders_limit 1), .ref (q_t_holders 1), .long (t_holders_above 1), .int (t_holders_size 1)])), ((q_t_holders 1), .inl (cI, 20, .inl (a_t_holders 1))), ((d_t_holders 2), .inr (2, [.int ((va_up t_holders_sort 1 (0 : Int32)) 2), .long (t_holders_tree 2), .int (t_holders_limit 2), .ref (q_t_holders 2), .long (t_holders_above 2), .int (t_holders_size 2)])), ((q_t_holders 2), .inl (cI, 20, .inl (a_t_holders 2))), ((d_t_holders 3), .inr (2, [.int ((va_up t_holders_sort 1 (0 : Int32)) 3), .long (t_holders_tree 3), .int (t_holders_limit 3), .ref (q_t_holders 3), .long (t_holders_above 3), .int (t_holders_size 3)])), ((q_t_holders 3), .inl (cI, 20, .inl (a_t_holders 3))), ((d_t_holders 4), .inr (2, [.int ((va_up t_holders_sort 1 (0 : Int32)) 4), .long (t_holders_tree 4), .int (t_holders_limit 4), .ref (q_t_holders 4), .long (t_holders_above 4), .int (t_holders_size 4)])), ((q_t_holders 4), .inl (cI, 20, .inl (a_t_holders 4))), ((d_t_holders 5), .inr (2, [.int ((va_up t_holders_sort 1 (0 : Int32)) 5), .long (t_holders_tree 5), .int (t_holders_limit 5), .ref (q_t_holders 5), .long (t_holders_above 5), .int (t_holders_size 5)])), ((q_t_holders 5), .inl (cI, 20, .inl (a_t_holders 5)))] := hD
    refine lv_iload_n hx hb dX8_lose_22 rfl (lv_at hl 0 rfl) ?_
    cases h
    exact k_iret hx hb hr hlocks hP hS rfl dX8_lose_23
  · refine k_VqU (n := 1) (As := [.int p0]) (rest := []) hx hb hml hown hts (c_X8_holderAt l G cI cJ cD cH s.heap.size h_t h_t_holders h_t_desk h_t_imageDesk h_t_deeds h_t_numbers h_t_tape h_t_reader h_t_speller d_t_holders q_t_holders a_t_holders t_holders_sort t_holders_tree t_holders_limit t_holders_above t_holders_size t_imageKept p0 2 hx1) gX8_lose_X8_holderAt rfl rfl rfl (by decide +kernel) ⟨by first | exact Nat.le_of_ble_eq_true rfl | (simp only [headSpec]; omega), by first | exact Nat.le_of_ble_eq_true rfl | (simp only [headSpec]; omega)⟩ hK hP hD hS hA [0, 1, 2, 3, 4, 5, 6, 7, 8, 9, 10, 11, 12, 13] (by decide) rfl (ci := 7) rfl rfl rfl rfl rfl hl.1 (Nat.le_of_ble_eq_true rfl) dX8_lose_2 ⟨Nat.zero_le _, Nat.zero_le _⟩ (fun hp1 H locs hP hS => ?_)
    refine W.eq (g2 := F0 m 5 ls [.ref (d_t_holders 2)]) rfl ?_
    have h := it_n h (by decide)
    refine lv_astore_n (lv' := [(2, .ref (d_t_holders 2)), (0, .ref h_t), (1, .int p0)]) hx hb dX8_lose_5 rfl hl (by decide) rfl (fun ls hl => ?_)
    refine lv_aload_n hx hb dX8_lose_6 rfl (lv_at hl 0 rfl) ?_
    refine lv_ifnonnull (tgt := 12) hx hb dX8_lose_7 (by decide) ?_
    refine lv_aload_n hx hb dX8_lose_12 rfl (lv_at hl 0 rfl) ?_
    refine va_get (D := G) (ci := 2) (v := .int (t_holders_sort 2)) (C := RX2) (T := TX2) (N := 6) hx hb hts hinX2 hown hK hP 6 rfl rfl 0 (by decide) (hts (.fieldLink RX8 267 "MarkedCurves$Holder" "sort" "I") (List.mem_of_getElem? (i := 1) (by decide +kernel))) (fun _ h9 => h9) rfl dX8_lose_13 ?_
    refine lv_istore_n (lv' := [(3, .int (t_holders_sort 2)), (2, .ref (d_t_holders 2)), (0, .ref h_t), (1, .int p0)]) hx hb dX8_lose_16 rfl hl (by decide) rfl (fun ls hl => ?_)
    refine lv_aload_n hx hb dX8_lose_17 rfl (lv_at hl 1 rfl) ?_
    refine lv_iconst (v := (0 : Int32)) hx hb dX8_lose_18 (by decide) ?_
    refine va_put (D := G) (ci := 2) (v := .int (0 : Int32)) (ty := .int) (C := RX2) (T := TX2) (N := 6) hx hb hts hinX2 tyX2 tyX2_ok nmX2 hown hK hP hD hS 6 rfl rfl 0 (by decide) (hts (.fieldLink RX8 267 "MarkedCurves$Holder" "sort" "I") (List.mem_of_getElem? (i := 1) (by decide +kernel))) (fun _ h9 => h9) rfl (by decide +kernel) rfl rfl (Nat.le_of_ble_eq_true rfl) dX8_lose_19 (fun H locs hP hD hS => ?_)
    have hP : va_P G vwCl [(h_t, .inr (7, [.ref h_t_desk, .ref h_t_imageDesk, .ref h_t_deeds, .ref h_t_numbers, .ref h_t_tape, .ref h_t_reader, .ref h_t_speller, .ref h_t_holders, .int t_imageKept])), (h_t_holders, .inl (cH, 6, .inr (.inr (.inr (.inr (fun i => some (d_t_holders i))))))), ((d_t_holders 0), .inr (2, [.int ((va_up t_holders_sort 2 (0 : Int32)) 0), .long (t_holders_tree 0), .int (t_holders_limit 0), .ref (q_t_holders 0), .long (t_holders_above 0), .int (t_holders_size 0)])), ((q_t_holders 0), .inl (cI, 20, .inl (a_t_holders 0))), ((d_t_holders 1), .inr (2, [.int ((va_up t_holders_sort 2 (0 : Int32)) 1), .long (t_holders_tree 1), .int (t_holders_limit 1), .ref (q_t_holders 1), .long (t_holders_above 1), .int (t_holders_size 1)])), ((q_t_holders 1), .inl (cI, 20, .inl (a_t_holders 1))), ((d_t_holders 2), .inr (2, [.int ((va_up t_holders_sort 2 (0 : Int32)) 2), .long (t_holders_tree 2), .int (t_holders_limit 2), .ref (q_t_holders 2), .long (t_holders_above 2), .int (t_holders_size 2)])), ((q_t_holders 2), .inl (cI, 20, .inl (a_t_holders 2))), ((d_t_holders 3), .inr (2, [.int ((va_up t_holders_sort 2 (0 : Int32)) 3), .long (t_holders_tree 3), .int (t_holders_limit 3), .ref (q_t_holders 3), .long (t_holders_above 3), .int (t_holders_size 3)])), ((q_t_holders 3), .inl (cI, 20, .inl (a_t_holders 3))), ((d_t_holders 4), .inr (2, [.int ((va_up t_holders_sort 2 (0 : Int32)) 4), .long (t_holders_tree 4), .int (t_holders_limit 4), .ref (q_t_holders 4), .long (t_holders_above 4), .int (t_holders_size 4)])), ((q_t_holders 4), .inl (cI, 20, .inl (a_t_holders 4))), ((d_t_holders 5), .inr (2, [.int ((va_up t_holders_sort 2 (0 : Int32)) 5), .long (t_holders_tree 5), .int (t_holders_limit 5), .ref (q_t_holders 5), .long (t_holders_above 5), .int (t_holders_size 5)])), ((q_t_holders 5), .inl (cI, 20, .inl (a_t_holders 5)))] H := hP
    have hD : va_D A [(h_t, .inr (7, [.ref h_t_desk, .ref h_t_imageDesk, .ref h_t_deeds, .ref h_t_numbers, .ref h_t_tape, .ref h_t_reader, .ref h_t_speller, .ref h_t_holders, .int t_imageKept])), (h_t_holders, .inl (cH, 6, .inr (.inr (.inr (.inr (fun i => some (d_t_holders i))))))), ((d_t_holders 0), .inr (2, [.int ((va_up t_holders_sort 2 (0 : Int32)) 0), .long (t_holders_tree 0), .int (t_holders_limit 0), .ref (q_t_holders 0), .long (t_holders_above 0), .int (t_holders_size 0)])), ((q_t_holders 0), .inl (cI, 20, .inl (a_t_holders 0))), ((d_t_holders 1), .inr (2, [.int ((va_up t_holders_sort 2 (0 : Int32)) 1), .long (t_holders_tree 1), .int (t_holders_limit 1), .ref (q_t_holders 1), .long (t_holders_above 1), .int (t_holders_size 1)])), ((q_t_holders 1), .inl (cI, 20, .inl (a_t_holders 1))), ((d_t_holders 2), .inr (2, [.int ((va_up t_holders_sort 2 (0 : Int32)) 2), .long (t_holders_tree 2), .int (t_holders_limit 2), .ref (q_t_holders 2), .long (t_holders_above 2), .int (t_holders_size 2)])), ((q_t_holders 2), .inl (cI, 20, .inl (a_t_holders 2))), ((d_t_holders 3), .inr (2, [.int ((va_up t_holders_sort 2 (0 : Int32)) 3), .long (t_holders_tree 3), .int (t_holders_limit 3), .ref (q_t_holders 3), .long (t_holders_above 3), .int (t_holders_size 3)])), ((q_t_holders 3), .inl (cI, 20, .inl (a_t_holders 3))), ((d_t_holders 4), .inr (2, [.int ((va_up t_holders_sort 2 (0 : Int32)) 4), .long (t_holders_tree 4), .int (t_holders_limit 4), .ref (q_t_holders 4), .long (t_holders_above 4), .int (t_holders_size 4)])), ((q_t_holders 4), .inl (cI, 20, .inl (a_t_holders 4))), ((d_t_holders 5), .inr (2, [.int ((va_up t_holders_sort 2 (0 : Int32)) 5), .long (t_holders_tree 5), .int (t_holders_limit 5), .ref (q_t_holders 5), .long (t_holders_above 5), .int (t_holders_size 5)])), ((q_t_holders 5), .inl (cI, 20, .inl (a_t_holders 5)))] := hD
    refine lv_iload_n hx hb dX8_lose_22 rfl (lv_at hl 0 rfl) ?_
    cases h
    exact k_iret hx hb hr hlocks hP hS rfl dX8_lose_23
  · refine k_VqU (n := 1) (As := [.int p0]) (rest := []) hx hb hml hown hts (c_X8_holderAt l G cI cJ cD cH s.heap.size h_t h_t_holders h_t_desk h_t_imageDesk h_t_deeds h_t_numbers h_t_tape h_t_reader h_t_speller d_t_holders q_t_holders a_t_holders t_holders_sort t_holders_tree t_holders_limit t_holders_above t_holders_size t_imageKept p0 3 hx1) gX8_lose_X8_holderAt rfl rfl rfl (by decide +kernel) ⟨by first | exact Nat.le_of_ble_eq_true rfl | (simp only [headSpec]; omega), by first | exact Nat.le_of_ble_eq_true rfl | (simp only [headSpec]; omega)⟩ hK hP hD hS hA [0, 1, 2, 3, 4, 5, 6, 7, 8, 9, 10, 11, 12, 13] (by decide) rfl (ci := 7) rfl rfl rfl rfl rfl hl.1 (Nat.le_of_ble_eq_true rfl) dX8_lose_2 ⟨Nat.zero_le _, Nat.zero_le _⟩ (fun hp1 H locs hP hS => ?_)
    refine W.eq (g2 := F0 m 5 ls [.ref (d_t_holders 3)]) rfl ?_
    have h := it_n h (by decide)
    refine lv_astore_n (lv' := [(2, .ref (d_t_holders 3)), (0, .ref h_t), (1, .int p0)]) hx hb dX8_lose_5 rfl hl (by decide) rfl (fun ls hl => ?_)
    refine lv_aload_n hx hb dX8_lose_6 rfl (lv_at hl 0 rfl) ?_
    refine lv_ifnonnull (tgt := 12) hx hb dX8_lose_7 (by decide) ?_
    refine lv_aload_n hx hb dX8_lose_12 rfl (lv_at hl 0 rfl) ?_
    refine va_get (D := G) (ci := 2) (v := .int (t_holders_sort 3)) (C := RX2) (T := TX2) (N := 6) hx hb hts hinX2 hown hK hP 8 rfl rfl 0 (by decide) (hts (.fieldLink RX8 267 "MarkedCurves$Holder" "sort" "I") (List.mem_of_getElem? (i := 1) (by decide +kernel))) (fun _ h9 => h9) rfl dX8_lose_13 ?_
    refine lv_istore_n (lv' := [(3, .int (t_holders_sort 3)), (2, .ref (d_t_holders 3)), (0, .ref h_t), (1, .int p0)]) hx hb dX8_lose_16 rfl hl (by decide) rfl (fun ls hl => ?_)
    refine lv_aload_n hx hb dX8_lose_17 rfl (lv_at hl 1 rfl) ?_
    refine lv_iconst (v := (0 : Int32)) hx hb dX8_lose_18 (by decide) ?_
    refine va_put (D := G) (ci := 2) (v := .int (0 : Int32)) (ty := .int) (C := RX2) (T := TX2) (N := 6) hx hb hts hinX2 tyX2 tyX2_ok nmX2 hown hK hP hD hS 8 rfl rfl 0 (by decide) (hts (.fieldLink RX8 267 "MarkedCurves$Holder" "sort" "I") (List.mem_of_getElem? (i := 1) (by decide +kernel))) (fun _ h9 => h9) rfl (by decide +kernel) rfl rfl (Nat.le_of_ble_eq_true rfl) dX8_lose_19 (fun H locs hP hD hS => ?_)
    have hP : va_P G vwCl [(h_t, .inr (7, [.ref h_t_desk, .ref h_t_imageDesk, .ref h_t_deeds, .ref h_t_numbers, .ref h_t_tape, .ref h_t_reader, .ref h_t_speller, .ref h_t_holders, .int t_imageKept])), (h_t_holders, .inl (cH, 6, .inr (.inr (.inr (.inr (fun i => some (d_t_holders i))))))), ((d_t_holders 0), .inr (2, [.int ((va_up t_holders_sort 3 (0 : Int32)) 0), .long (t_holders_tree 0), .int (t_holders_limit 0), .ref (q_t_holders 0), .long (t_holders_above 0), .int (t_holders_size 0)])), ((q_t_holders 0), .inl (cI, 20, .inl (a_t_holders 0))), ((d_t_holders 1), .inr (2, [.int ((va_up t_holders_sort 3 (0 : Int32)) 1), .long (t_holders_tree 1), .int (t_holders_limit 1), .ref (q_t_holders 1), .long (t_holders_above 1), .int (t_holders_size 1)])), ((q_t_holders 1), .inl (cI, 20, .inl (a_t_holders 1))), ((d_t_holders 2), .inr (2, [.int ((va_up t_holders_sort 3 (0 : Int32)) 2), .long (t_holders_tree 2), .int (t_holders_limit 2), .ref (q_t_holders 2), .long (t_holders_above 2), .int (t_holders_size 2)])), ((q_t_holders 2), .inl (cI, 20, .inl (a_t_holders 2))), ((d_t_holders 3), .inr (2, [.int ((va_up t_holders_sort 3 (0 : Int32)) 3), .long (t_holders_tree 3), .int (t_holders_limit 3), .ref (q_t_holders 3), .long (t_holders_above 3), .int (t_holders_size 3)])), ((q_t_holders 3), .inl (cI, 20, .inl (a_t_holders 3))), ((d_t_holders 4), .inr (2, [.int ((va_up t_holders_sort 3 (0 : Int32)) 4), .long (t_holders_tree 4), .int (t_holders_limit 4), .ref (q_t_holders 4), .long (t_holders_above 4), .int (t_holders_size 4)])), ((q_t_holders 4), .inl (cI, 20, .inl (a_t_holders 4))), ((d_t_holders 5), .inr (2, [.int ((va_up t_holders_sort 3 (0 : Int32)) 5), .long (t_holders_tree 5), .int (t_holders_limit 5), .ref (q_t_holders 5), .long (t_holders_above 5), .int (t_holders_size 5)])), ((q_t_holders 5), .inl (cI, 20, .inl (a_t_holders 5)))] H := hP
    have hD : va_D A [(h_t, .inr (7, [.ref h_t_desk, .ref h_t_imageDesk, .ref h_t_deeds, .ref h_t_numbers, .ref h_t_tape, .ref h_t_reader, .ref h_t_speller, .ref h_t_holders, .int t_imageKept])), (h_t_holders, .inl (cH, 6, .inr (.inr (.inr (.inr (fun i => some (d_t_holders i))))))), ((d_t_holders 0), .inr (2, [.int ((va_up t_holders_sort 3 (0 : Int32)) 0), .long (t_holders_tree 0), .int (t_holders_limit 0), .ref (q_t_holders 0), .long (t_holders_above 0), .int (t_holders_size 0)])), ((q_t_holders 0), .inl (cI, 20, .inl (a_t_holders 0))), ((d_t_holders 1), .inr (2, [.int ((va_up t_holders_sort 3 (0 : Int32)) 1), .long (t_holders_tree 1), .int (t_holders_limit 1), .ref (q_t_holders 1), .long (t_holders_above 1), .int (t_holders_size 1)])), ((q_t_holders 1), .inl (cI, 20, .inl (a_t_holders 1))), ((d_t_holders 2), .inr (2, [.int ((va_up t_holders_sort 3 (0 : Int32)) 2), .long (t_holders_tree 2), .int (t_holders_limit 2), .ref (q_t_holders 2), .long (t_holders_above 2), .int (t_holders_size 2)])), ((q_t_holders 2), .inl (cI, 20, .inl (a_t_holders 2))), ((d_t_holders 3), .inr (2, [.int ((va_up t_holders_sort 3 (0 : Int32)) 3), .long (t_holders_tree 3), .int (t_holders_limit 3), .ref (q_t_holders 3), .long (t_holders_above 3), .int (t_holders_size 3)])), ((q_t_holders 3), .inl (cI, 20, .inl (a_t_holders 3))), ((d_t_holders 4), .inr (2, [.int ((va_up t_holders_sort 3 (0 : Int32)) 4), .long (t_holders_tree 4), .int (t_holders_limit 4), .ref (q_t_holders 4), .long (t_holders_above 4), .int (t_holders_size 4)])), ((q_t_holders 4), .inl (cI, 20, .inl (a_t_holders 4))), ((d_t_holders 5), .inr (2, [.int ((va_up t_holders_sort 3 (0 : Int32)) 5), .long (t_holders_tree 5), .int (t_holders_limit 5), .ref (q_t_holders 5), .long (t_holders_above 5), .int (t_holders_size 5)])), ((q_t_holders 5), .inl (cI, 20, .inl (a_t_holders 5)))] := hD
    refine lv_iload_n hx hb dX8_lose_22 rfl (lv_at hl 0 rfl) ?_
    cases h
    exact k_iret hx hb hr hlocks hP hS rfl dX8_lose_23
  · refine k_VqU (n := 1) (As := [.int p0]) (rest := []) hx hb hml hown hts (c_X8_holderAt l G cI cJ cD cH s.heap.size h_t h_t_holders h_t_desk h_t_imageDesk h_t_deeds h_t_numbers h_t_tape h_t_reader h_t_speller d_t_holders q_t_holders a_t_holders t_holders_sort t_holders_tree t_holders_limit t_holders_above t_holders_size t_imageKept p0 4 hx1) gX8_lose_X8_holderAt rfl rfl rfl (by decide +kernel) ⟨by first | exact Nat.le_of_ble_eq_true rfl | (simp only [headSpec]; omega), by first | exact Nat.le_of_ble_eq_true rfl | (simp only [headSpec]; omega)⟩ hK hP hD hS hA [0, 1, 2, 3, 4, 5, 6, 7, 8, 9, 10, 11, 12, 13] (by decide) rfl (ci := 7) rfl rfl rfl rfl rfl hl.1 (Nat.le_of_ble_eq_true rfl) dX8_lose_2 ⟨Nat.zero_le _, Nat.zero_le _⟩ (fun hp1 H locs hP hS => ?_)
    refine W.eq (g2 := F0 m 5 ls [.ref (d_t_holders 4)]) rfl ?_
    have h := it_n h (by decide)
    refine lv_astore_n (lv' := [(2, .ref (d_t_holders 4)), (0, .ref h_t), (1, .int p0)]) hx hb dX8_lose_5 rfl hl (by decide) rfl (fun ls hl => ?_)
    refine lv_aload_n hx hb dX8_lose_6 rfl (lv_at hl 0 rfl) ?_
    refine lv_ifnonnull (tgt := 12) hx hb dX8_lose_7 (by decide) ?_
    refine lv_aload_n hx hb dX8_lose_12 rfl (lv_at hl 0 rfl) ?_
    refine va_get (D := G) (ci := 2) (v := .int (t_holders_sort 4)) (C := RX2) (T := TX2) (N := 6) hx hb hts hinX2 hown hK hP 10 rfl rfl 0 (by decide) (hts (.fieldLink RX8 267 "MarkedCurves$Holder" "sort" "I") (List.mem_of_getElem? (i := 1) (by decide +kernel))) (fun _ h9 => h9) rfl dX8_lose_13 ?_
    refine lv_istore_n (lv' := [(3, .int (t_holders_sort 4)), (2, .ref (d_t_holders 4)), (0, .ref h_t), (1, .int p0)]) hx hb dX8_lose_16 rfl hl (by decide) rfl (fun ls hl => ?_)
    refine lv_aload_n hx hb dX8_lose_17 rfl (lv_at hl 1 rfl) ?_
    refine lv_iconst (v := (0 : Int32)) hx hb dX8_lose_18 (by decide) ?_
    refine va_put (D := G) (ci := 2) (v := .int (0 : Int32)) (ty := .int) (C := RX2) (T := TX2) (N := 6) hx hb hts hinX2 tyX2 tyX2_ok nmX2 hown hK hP hD hS 10 rfl rfl 0 (by decide) (hts (.fieldLink RX8 267 "MarkedCurves$Holder" "sort" "I") (List.mem_of_getElem? (i := 1) (by decide +kernel))) (fun _ h9 => h9) rfl (by decide +kernel) rfl rfl (Nat.le_of_ble_eq_true rfl) dX8_lose_19 (fun H locs hP hD hS => ?_)
    have hP : va_P G vwCl [(h_t, .inr (7, [.ref h_t_desk, .ref h_t_imageDesk, .ref h_t_deeds, .ref h_t_numbers, .ref h_t_tape, .ref h_t_reader, .ref h_t_speller, .ref h_t_holders, .int t_imageKept])), (h_t_holders, .inl (cH, 6, .inr (.inr (.inr (.inr (fun i => some (d_t_holders i))))))), ((d_t_holders 0), .inr (2, [.int ((va_up t_holders_sort 4 (0 : Int32)) 0), .long (t_holders_tree 0), .int (t_holders_limit 0), .ref (q_t_holders 0), .long (t_holders_above 0), .int (t_holders_size 0)])), ((q_t_holders 0), .inl (cI, 20, .inl (a_t_holders 0))), ((d_t_holders 1), .inr (2, [.int ((va_up t_holders_sort 4 (0 : Int32)) 1), .long (t_holders_tree 1), .int (t_holders_limit 1), .ref (q_t_holders 1), .long (t_holders_above 1), .int (t_holders_size 1)])), ((q_t_holders 1), .inl (cI, 20, .inl (a_t_holders 1))), ((d_t_holders 2), .inr (2, [.int ((va_up t_holders_sort 4 (0 : Int32)) 2), .long (t_holders_tree 2), .int (t_holders_limit 2), .ref (q_t_holders 2), .long (t_holders_above 2), .int (t_holders_size 2)])), ((q_t_holders 2), .inl (cI, 20, .inl (a_t_holders 2))), ((d_t_holders 3), .inr (2, [.int ((va_up t_holders_sort 4 (0 : Int32)) 3), .long (t_holders_tree 3), .int (t_holders_limit 3), .ref (q_t_holders 3), .long (t_holders_above 3), .int (t_holders_size 3)])), ((q_t_holders 3), .inl (cI, 20, .inl (a_t_holders 3))), ((d_t_holders 4), .inr (2, [.int ((va_up t_holders_sort 4 (0 : Int32)) 4), .long (t_holders_tree 4), .int (t_holders_limit 4), .ref (q_t_holders 4), .long (t_holders_above 4), .int (t_holders_size 4)])), ((q_t_holders 4), .inl (cI, 20, .inl (a_t_holders 4))), ((d_t_holders 5), .inr (2, [.int ((va_up t_holders_sort 4 (0 : Int32)) 5), .long (t_holders_tree 5), .int (t_holders_limit 5), .ref (q_t_holders 5), .long (t_holders_above 5), .int (t_holders_size 5)])), ((q_t_holders 5), .inl (cI, 20, .inl (a_t_holders 5)))] H := hP
    have hD : va_D A [(h_t, .inr (7, [.ref h_t_desk, .ref h_t_imageDesk, .ref h_t_deeds, .ref h_t_numbers, .ref h_t_tape, .ref h_t_reader, .ref h_t_speller, .ref h_t_holders, .int t_imageKept])), (h_t_holders, .inl (cH, 6, .inr (.inr (.inr (.inr (fun i => some (d_t_holders i))))))), ((d_t_holders 0), .inr (2, [.int ((va_up t_holders_sort 4 (0 : Int32)) 0), .long (t_holders_tree 0), .int (t_holders_limit 0), .ref (q_t_holders 0), .long (t_holders_above 0), .int (t_holders_size 0)])), ((q_t_holders 0), .inl (cI, 20, .inl (a_t_holders 0))), ((d_t_holders 1), .inr (2, [.int ((va_up t_holders_sort 4 (0 : Int32)) 1), .long (t_holders_tree 1), .int (t_holders_limit 1), .ref (q_t_holders 1), .long (t_holders_above 1), .int (t_holders_size 1)])), ((q_t_holders 1), .inl (cI, 20, .inl (a_t_holders 1))), ((d_t_holders 2), .inr (2, [.int ((va_up t_holders_sort 4 (0 : Int32)) 2), .long (t_holders_tree 2), .int (t_holders_limit 2), .ref (q_t_holders 2), .long (t_holders_above 2), .int (t_holders_size 2)])), ((q_t_holders 2), .inl (cI, 20, .inl (a_t_holders 2))), ((d_t_holders 3), .inr (2, [.int ((va_up t_holders_sort 4 (0 : Int32)) 3), .long (t_holders_tree 3), .int (t_holders_limit 3), .ref (q_t_holders 3), .long (t_holders_above 3), .int (t_holders_size 3)])), ((q_t_holders 3), .inl (cI, 20, .inl (a_t_holders 3))), ((d_t_holders 4), .inr (2, [.int ((va_up t_holders_sort 4 (0 : Int32)) 4), .long (t_holders_tree 4), .int (t_holders_limit 4), .ref (q_t_holders 4), .long (t_holders_above 4), .int (t_holders_size 4)])), ((q_t_holders 4), .inl (cI, 20, .inl (a_t_holders 4))), ((d_t_holders 5), .inr (2, [.int ((va_up t_holders_sort 4 (0 : Int32)) 5), .long (t_holders_tree 5), .int (t_holders_limit 5), .ref (q_t_holders 5), .long (t_holders_above 5), .int (t_holders_size 5)])), ((q_t_holders 5), .inl (cI, 20, .inl (a_t_holders 5)))] := hD
    refine lv_iload_n hx hb dX8_lose_22 rfl (lv_at hl 0 rfl) ?_
    cases h
    exact k_iret hx hb hr hlocks hP hS rfl dX8_lose_23
  · refine k_VqU (n := 1) (As := [.int p0]) (rest := []) hx hb hml hown hts (c_X8_holderAt l G cI cJ cD cH s.heap.size h_t h_t_holders h_t_desk h_t_imageDesk h_t_deeds h_t_numbers h_t_tape h_t_reader h_t_speller d_t_holders q_t_holders a_t_holders t_holders_sort t_holders_tree t_holders_limit t_holders_above t_holders_size t_imageKept p0 5 hx1) gX8_lose_X8_holderAt rfl rfl rfl (by decide +kernel) ⟨by first | exact Nat.le_of_ble_eq_true rfl | (simp only [headSpec]; omega), by first | exact Nat.le_of_ble_eq_true rfl | (simp only [headSpec]; omega)⟩ hK hP hD hS hA [0, 1, 2, 3, 4, 5, 6, 7, 8, 9, 10, 11, 12, 13] (by decide) rfl (ci := 7) rfl rfl rfl rfl rfl hl.1 (Nat.le_of_ble_eq_true rfl) dX8_lose_2 ⟨Nat.zero_le _, Nat.zero_le _⟩ (fun hp1 H locs hP hS => ?_)
    refine W.eq (g2 := F0 m 5 ls [.ref (d_t_holders 5)]) rfl ?_
    have h := it_n h (by decide)
    refine lv_astore_n (lv' := [(2, .ref (d_t_holders 5)), (0, .ref h_t), (1, .int p0)]) hx hb dX8_lose_5 rfl hl (by decide) rfl (fun ls hl => ?_)
    refine lv_aload_n hx hb dX8_lose_6 rfl (lv_at hl 0 rfl) ?_
    refine lv_ifnonnull (tgt := 12) hx hb dX8_lose_7 (by decide) ?_
    refine lv_aload_n hx hb dX8_lose_12 rfl (lv_at hl 0 rfl) ?_
    refine va_get (D := G) (ci := 2) (v := .int (t_holders_sort 5)) (C := RX2) (T := TX2) (N := 6) hx hb hts hinX2 hown hK hP 12 rfl rfl 0 (by decide) (hts (.fieldLink RX8 267 "MarkedCurves$Holder" "sort" "I") (List.mem_of_getElem? (i := 1) (by decide +kernel))) (fun _ h9 => h9) rfl dX8_lose_13 ?_
    refine lv_istore_n (lv' := [(3, .int (t_holders_sort 5)), (2, .ref (d_t_holders 5)), (0, .ref h_t), (1, .int p0)]) hx hb dX8_lose_16 rfl hl (by decide) rfl (fun ls hl => ?_)
    refine lv_aload_n hx hb dX8_lose_17 rfl (lv_at hl 1 rfl) ?_
    refine lv_iconst (v := (0 : Int32)) hx hb dX8_lose_18 (by decide) ?_
    refine va_put (D := G) (ci := 2) (v := .int (0 : Int32)) (ty := .int) (C := RX2) (T := TX2) (N := 6) hx hb hts hinX2 tyX2 tyX2_ok nmX2 hown hK hP hD hS 12 rfl rfl 0 (by decide) (hts (.fieldLink RX8 267 "MarkedCurves$Holder" "sort" "I") (List.mem_of_getElem? (i := 1) (by decide +kernel))) (fun _ h9 => h9) rfl (by decide +kernel) rfl rfl (Nat.le_of_ble_eq_true rfl) dX8_lose_19 (fun H locs hP hD hS => ?_)
    have hP : va_P G vwCl [(h_t, .inr (7, [.ref h_t_desk, .ref h_t_imageDesk, .ref h_t_deeds, .ref h_t_numbers, .ref h_t_tape, .ref h_t_reader, .ref h_t_speller, .ref h_t_holders, .int t_imageKept])), (h_t_holders, .inl (cH, 6, .inr (.inr (.inr (.inr (fun i => some (d_t_holders i))))))), ((d_t_holders 0), .inr (2, [.int ((va_up t_holders_sort 5 (0 : Int32)) 0), .long (t_holders_tree 0), .int (t_holders_limit 0), .ref (q_t_holders 0), .long (t_holders_above 0), .int (t_holders_size 0)])), ((q_t_holders 0), .inl (cI, 20, .inl (a_t_holders 0))), ((d_t_holders 1), .inr (2, [.int ((va_up t_holders_sort 5 (0 : Int32)) 1), .long (t_holders_tree 1), .int (t_holders_limit 1), .ref (q_t_holders 1), .long (t_holders_above 1), .int (t_holders_size 1)])), ((q_t_holders 1), .inl (cI, 20, .inl (a_t_holders 1))), ((d_t_holders 2), .inr (2, [.int ((va_up t_holders_sort 5 (0 : Int32)) 2), .long (t_holders_tree 2), .int (t_holders_limit 2), .ref (q_t_holders 2), .long (t_holders_above 2), .int (t_holders_size 2)])), ((q_t_holders 2), .inl (cI, 20, .inl (a_t_holders 2))), ((d_t_holders 3), .inr (2, [.int ((va_up t_holders_sort 5 (0 : Int32)) 3), .long (t_holders_tree 3), .int (t_holders_limit 3), .ref (q_t_holders 3), .long (t_holders_above 3), .int (t_holders_size 3)])), ((q_t_holders 3), .inl (cI, 20, .inl (a_t_holders 3))), ((d_t_holders 4), .inr (2, [.int ((va_up t_holders_sort 5 (0 : Int32)) 4), .long (t_holders_tree 4), .int (t_holders_limit 4), .ref (q_t_holders 4), .long (t_holders_above 4), .int (t_holders_size 4)])), ((q_t_holders 4), .inl (cI, 20, .inl (a_t_holders 4))), ((d_t_holders 5), .inr (2, [.int ((va_up t_holders_sort 5 (0 : Int32)) 5), .long (t_holders_tree 5), .int (t_holders_limit 5), .ref (q_t_holders 5), .long (t_holders_above 5), .int (t_holders_size 5)])), ((q_t_holders 5), .inl (cI, 20, .inl (a_t_holders 5)))] H := hP
    have hD : va_D A [(h_t, .inr (7, [.ref h_t_desk, .ref h_t_imageDesk, .ref h_t_deeds, .ref h_t_numbers, .ref h_t_tape, .ref h_t_reader, .ref h_t_speller, .ref h_t_holders, .int t_imageKept])), (h_t_holders, .inl (cH, 6, .inr (.inr (.inr (.inr (fun i => some (d_t_holders i))))))), ((d_t_holders 0), .inr (2, [.int ((va_up t_holders_sort 5 (0 : Int32)) 0), .long (t_holders_tree 0), .int (t_holders_limit 0), .ref (q_t_holders 0), .long (t_holders_above 0), .int (t_holders_size 0)])), ((q_t_holders 0), .inl (cI, 20, .inl (a_t_holders 0))), ((d_t_holders 1), .inr (2, [.int ((va_up t_holders_sort 5 (0 : Int32)) 1), .long (t_holders_tree 1), .int (t_holders_limit 1), .ref (q_t_holders 1), .long (t_holders_above 1), .int (t_holders_size 1)])), ((q_t_holders 1), .inl (cI, 20, .inl (a_t_holders 1))), ((d_t_holders 2), .inr (2, [.int ((va_up t_holders_sort 5 (0 : Int32)) 2), .long (t_holders_tree 2), .int (t_holders_limit 2), .ref (q_t_holders 2), .long (t_holders_above 2), .int (t_holders_size 2)])), ((q_t_holders 2), .inl (cI, 20, .inl (a_t_holders 2))), ((d_t_holders 3), .inr (2, [.int ((va_up t_holders_sort 5 (0 : Int32)) 3), .long (t_holders_tree 3), .int (t_holders_limit 3), .ref (q_t_holders 3), .long (t_holders_above 3), .int (t_holders_size 3)])), ((q_t_holders 3), .inl (cI, 20, .inl (a_t_holders 3))), ((d_t_holders 4), .inr (2, [.int ((va_up t_holders_sort 5 (0 : Int32)) 4), .long (t_holders_tree 4), .int (t_holders_limit 4), .ref (q_t_holders 4), .long (t_holders_above 4), .int (t_holders_size 4)])), ((q_t_holders 4), .inl (cI, 20, .inl (a_t_holders 4))), ((d_t_holders 5), .inr (2, [.int ((va_up t_holders_sort 5 (0 : Int32)) 5), .long (t_holders_tree 5), .int (t_holders_limit 5), .ref (q_t_holders 5), .long (t_holders_above 5), .int (t_holders_size 5)])), ((q_t_holders 5), .inl (cI, 20, .inl (a_t_holders 5)))] := hD
    refine lv_iload_n hx hb dX8_lose_22 rfl (lv_at hl 0 rfl) ?_
    cases h
    exact k_iret hx hb hr hlocks hP hS rfl dX8_lose_23
  · refine k_VqU (n := 1) (As := [.int p0]) (rest := []) hx hb hml hown hts (c_X8_holderAt l G cI cJ cD cH s.heap.size h_t h_t_holders h_t_desk h_t_imageDesk h_t_deeds h_t_numbers h_t_tape h_t_reader h_t_speller d_t_holders q_t_holders a_t_holders t_holders_sort t_holders_tree t_holders_limit t_holders_above t_holders_size t_imageKept p0 6 hx1) gX8_lose_X8_holderAt rfl rfl rfl (by decide +kernel) ⟨by first | exact Nat.le_of_ble_eq_true rfl | (simp only [headSpec]; omega), by first | exact Nat.le_of_ble_eq_true rfl | (simp only [headSpec]; omega)⟩ hK hP hD hS hA [0, 1, 2, 3, 4, 5, 6, 7, 8, 9, 10, 11, 12, 13] (by decide) rfl (ci := 7) rfl rfl rfl rfl rfl hl.1 (Nat.le_of_ble_eq_true rfl) dX8_lose_2 ⟨Nat.zero_le _, Nat.zero_le _⟩ (fun hp1 H locs hP hS => ?_)
    refine W.eq (g2 := F0 m 5 ls [.null]) rfl ?_
    have h := it_p h rfl
    refine lv_astore_nN (lv' := [(2, .null), (0, .ref h_t), (1, .int p0)]) hx hb dX8_lose_5 rfl hl (by decide) rfl (fun ls hl => ?_)
    refine lv_aload_nN hx hb dX8_lose_6 rfl (lv_at hl 0 rfl) ?_
    refine lv_ifnonnullN hx hb dX8_lose_7 ?_
    refine lv_iconst (v := (-1 : Int32)) hx hb dX8_lose_10 (by decide) ?_
    cases h
    exact k_iret hx hb hr hlocks hP hS rfl dX8_lose_11

/-! X8_taken -/
noncomputable def F_X8_taken (t_holders_sort : Nat → Int32) (t_holders_tree : Nat → Int64) (t_holders_limit : Nat → Int32) (t_holders_above : Nat → Int64) (p0 : Int32) (p1 : Int32) : Option (Int32) :=
  bd (F_X8_holderAt p0) (fun x1 => if x1 = 6 then (some (-1 : Int32)) else (if p1 < 0 then (some (-1 : Int32)) else (if p1 ≤ (3 : Int32) then (if (t_holders_sort x1) = 0 then (some (-11 : Int32)) else (bd (F_X2_isOfKind (t_holders_sort x1) (t_holders_tree x1) (t_holders_limit x1) p1) (fun x5 => if x5 = 0 then (some (-12 : Int32)) else (bd (F_X2_takenFor (t_holders_tree x1) (t_holders_limit x1) (t_holders_above x1) p1) (fun x7 => some x7))))) else (some (-1 : Int32)))))
theorem in_X8_taken_X2 : ∀ w ∈ wsX20, w ∈ wsX8_taken := mem_r _ [41, 42, 43, 44, 45, 46] (by decide +kernel)
set_option maxHeartbeats 40000000 in
set_option maxRecDepth 100000 in
theorem c_X8_taken (l : Launch) (G : va_G) (cI cJ cD cH : ClassId) (sz : Nat) (h_t : Nat) (h_t_holders : Nat) (h_t_desk : Nat) (h_t_imageDesk : Nat) (h_t_deeds : Nat) (h_t_numbers : Nat) (h_t_tape : Nat) (h_t_reader : Nat) (h_t_speller : Nat) (d_t_holders : Nat → Nat) (q_t_holders : Nat → Nat) (a_t_holders : Nat → Nat → Int32) (t_holders_sort : Nat → Int32) (t_holders_tree : Nat → Int64) (t_holders_limit : Nat → Int32) (t_holders_above : Nat → Int64) (t_holders_size : Nat → Int32) (t_imageKept : Int32) (p0 : Int32) (p1 : Int32) (r0 : Int32) (hF : F_X8_taken t_holders_sort t_holders_tree t_holders_limit t_holders_above p0 p1 = some r0) : Met l yX8_taken wsX8_taken ({ frames := 4, cells := 0, slots := 0, locals := 83 }) (k_pre G (k_T cI cJ cD cH) [(h_t, .inr (7, [.ref h_t_desk, .ref h_t_imageDesk, .ref h_t_deeds, .ref h_t_numbers, .ref h_t_tape, .ref h_t_reader, .ref h_t_speller, .ref h_t_holders, .int t_imageKept])), (h_t_holders, .inl (cH, 6, .inr (.inr (.inr (.inr (fun i => some (d_t_holders i))))))), ((d_t_holders 0), .inr (2, [.int (t_holders_sort 0), .long (t_holders_tree 0), .int (t_holders_limit 0), .ref (q_t_holders 0), .long (t_holders_above 0), .int (t_holders_size 0)])), ((q_t_holders 0), .inl (cI, 20, .inl (a_t_holders 0))), ((d_t_holders 1), .inr (2, [.int (t_holders_sort 1), .long (t_holders_tree 1), .int (t_holders_limit 1), .ref (q_t_holders 1), .long (t_holders_above 1), .int (t_holders_size 1)])), ((q_t_holders 1), .inl (cI, 20, .inl (a_t_holders 1))), ((d_t_holders 2), .inr (2, [.int (t_holders_sort 2), .long (t_holders_tree 2), .int (t_holders_limit 2), .ref (q_t_holders 2), .long (t_holders_above 2), .int (t_holders_size 2)])), ((q_t_holders 2), .inl (cI, 20, .inl (a_t_holders 2))), ((d_t_holders 3), .inr (2, [.int (t_holders_sort 3), .long (t_holders_tree 3), .int (t_holders_limit 3), .ref (q_t_holders 3), .long (t_holders_above 3), .int (t_holders_size 3)])), ((q_t_holders 3), .inl (cI, 20, .inl (a_t_holders 3))), ((d_t_holders 4), .inr (2, [.int (t_holders_sort 4), .long (t_holders_tree 4), .int (t_holders_limit 4), .ref (q_t_holders 4), .long (t_holders_above 4), .int (t_holders_size 4)])), ((q_t_holders 4), .inl (cI, 20, .inl (a_t_holders 4))), ((d_t_holders 5), .inr (2, [.int (t_holders_sort 5), .long (t_holders_tree 5), .int (t_holders_limit 5), .ref (q_t_holders 5), .long (t_holders_above 5), .int (t_holders_size 5)])), ((q_t_holders 5), .inl (cI, 20, .inl (a_t_holders 5)))] sz [.ref h_t, .int p0, .int p1]) (va_Qi (fun r (_ : Unit) => r = r0 ∧ True) (fun _ t => va_P G vwCl [(h_t, .inr (7, [.ref h_t_desk, .ref h_t_imageDesk, .ref h_t_deeds, .ref h_t_numbers, .ref h_t_tape, .ref h_t_reader, .ref h_t_speller, .ref h_t_holders, .int t_imageKept])), (h_t_holders, .inl (cH, 6, .inr (.inr (.inr (.inr (fun i => some (d_t_holders i))))))), ((d_t_holders 0), .inr (2, [.int (t_holders_sort 0), .long (t_holders_tree 0), .int (t_holders_limit 0), .ref (q_t_holders 0), .long (t_holders_above 0), .int (t_holders_size 0)])), ((q_t_holders 0), .inl (cI, 20, .inl (a_t_holders 0))), ((d_t_holders 1), .inr (2, [.int (t_holders_sort 1), .long (t_holders_tree 1), .int (t_holders_limit 1), .ref (q_t_holders 1), .long (t_holders_above 1), .int (t_holders_size 1)])), ((q_t_holders 1), .inl (cI, 20, .inl (a_t_holders 1))), ((d_t_holders 2), .inr (2, [.int (t_holders_sort 2), .long (t_holders_tree 2), .int (t_holders_limit 2), .ref (q_t_holders 2), .long (t_holders_above 2), .int (t_holders_size 2)])), ((q_t_holders 2), .inl (cI, 20, .inl (a_t_holders 2))), ((d_t_holders 3), .inr (2, [.int (t_holders_sort 3), .long (t_holders_tree 3), .int (t_holders_limit 3), .ref (q_t_holders 3), .long (t_holders_above 3), .int (t_holders_size 3)])), ((q_t_holders 3), .inl (cI, 20, .inl (a_t_holders 3))), ((d_t_holders 4), .inr (2, [.int (t_holders_sort 4), .long (t_holders_tree 4), .int (t_holders_limit 4), .ref (q_t_holders 4), .long (t_holders_above 4), .int (t_holders_size 4)])), ((q_t_holders 4), .inl (cI, 20, .inl (a_t_holders 4))), ((d_t_holders 5), .inr (2, [.int (t_holders_sort 5), .long (t_holders_tree 5), .int (t_holders_limit 5), .ref (q_t_holders 5), .long (t_holders_above 5), .int (t_holders_size 5)])), ((q_t_holders 5), .inl (cI, 20, .inl (a_t_holders 5)))] t.heap) (va_A [(h_t, .inr (7, [.ref h_t_desk, .ref h_t_imageDesk, .ref h_t_deeds, .ref h_t_numbers, .ref h_t_tape, .ref h_t_reader, .ref h_t_speller, .ref h_t_holders, .int t_imageKept])), (h_t_holders, .inl (cH, 6, .inr (.inr (.inr (.inr (fun i => some (d_t_holders i))))))), ((d_t_holders 0), .inr (2, [.int (t_holders_sort 0), .long (t_holders_tree 0), .int (t_holders_limit 0), .ref (q_t_holders 0), .long (t_holders_above 0), .int (t_holders_size 0)])), ((q_t_holders 0), .inl (cI, 20, .inl (a_t_holders 0))), ((d_t_holders 1), .inr (2, [.int (t_holders_sort 1), .long (t_holders_tree 1), .int (t_holders_limit 1), .ref (q_t_holders 1), .long (t_holders_above 1), .int (t_holders_size 1)])), ((q_t_holders 1), .inl (cI, 20, .inl (a_t_holders 1))), ((d_t_holders 2), .inr (2, [.int (t_holders_sort 2), .long (t_holders_tree 2), .int (t_holders_limit 2), .ref (q_t_holders 2), .long (t_holders_above 2), .int (t_holders_size 2)])), ((q_t_holders 2), .inl (cI, 20, .inl (a_t_holders 2))), ((d_t_holders 3), .inr (2, [.int (t_holders_sort 3), .long (t_holders_tree 3), .int (t_holders_limit 3), .ref (q_t_holders 3), .long (t_holders_above 3), .int (t_holders_size 3)])), ((q_t_holders 3), .inl (cI, 20, .inl (a_t_holders 3))), ((d_t_holders 4), .inr (2, [.int (t_holders_sort 4), .long (t_holders_tree 4), .int (t_holders_limit 4), .ref (q_t_holders 4), .long (t_holders_above 4), .int (t_holders_size 4)])), ((q_t_holders 4), .inl (cI, 20, .inl (a_t_holders 4))), ((d_t_holders 5), .inr (2, [.int (t_holders_sort 5), .long (t_holders_tree 5), .int (t_holders_limit 5), .ref (q_t_holders 5), .long (t_holders_above 5), .int (t_holders_size 5)])), ((q_t_holders 5), .inl (cI, 20, .inl (a_t_holders 5)))] sz)) 0 0 (va_A [(h_t, .inr (7, [.ref h_t_desk, .ref h_t_imageDesk, .ref h_t_deeds, .ref h_t_numbers, .ref h_t_tape, .ref h_t_reader, .ref h_t_speller, .ref h_t_holders, .int t_imageKept])), (h_t_holders, .inl (cH, 6, .inr (.inr (.inr (.inr (fun i => some (d_t_holders i))))))), ((d_t_holders 0), .inr (2, [.int (t_holders_sort 0), .long (t_holders_tree 0), .int (t_holders_limit 0), .ref (q_t_holders 0), .long (t_holders_above 0), .int (t_holders_size 0)])), ((q_t_holders 0), .inl (cI, 20, .inl (a_t_holders 0))), ((d_t_holders 1), .inr (2, [.int (t_holders_sort 1), .long (t_holders_tree 1), .int (t_holders_limit 1), .ref (q_t_holders 1), .long (t_holders_above 1), .int (t_holders_size 1)])), ((q_t_holders 1), .inl (cI, 20, .inl (a_t_holders 1))), ((d_t_holders 2), .inr (2, [.int (t_holders_sort 2), .long (t_holders_tree 2), .int (t_holders_limit 2), .ref (q_t_holders 2), .long (t_holders_above 2), .int (t_holders_size 2)])), ((q_t_holders 2), .inl (cI, 20, .inl (a_t_holders 2))), ((d_t_holders 3), .inr (2, [.int (t_holders_sort 3), .long (t_holders_tree 3), .int (t_holders_limit 3), .ref (q_t_holders 3), .long (t_holders_above 3), .int (t_holders_size 3)])), ((q_t_holders 3), .inl (cI, 20, .inl (a_t_holders 3))), ((d_t_holders 4), .inr (2, [.int (t_holders_sort 4), .long (t_holders_tree 4), .int (t_holders_limit 4), .ref (q_t_holders 4), .long (t_holders_above 4), .int (t_holders_size 4)])), ((q_t_holders 4), .inl (cI, 20, .inl (a_t_holders 4))), ((d_t_holders 5), .inr (2, [.int (t_holders_sort 5), .long (t_holders_tree 5), .int (t_holders_limit 5), .ref (q_t_holders 5), .long (t_holders_above 5), .int (t_holders_size 5)])), ((q_t_holders 5), .inl (cI, 20, .inl (a_t_holders 5)))] sz) := by
  refine Met.ofW (cc := cX8_taken) (maxL := 4) (ret := (some .int)) (by decide) rfl ?_
  intro p e s m args below meth c s₁ B hml hv
  obtain ⟨rfl, hsz, hP, hK, hD0⟩ := hv
  have hx := B.exec
  have hb := B.bytes
  have hr := B.returns
  have hts := atoms_spec (ws := wsX8_taken) B.pre
  have hown : s.vm.findClass RX8 = some m.cls := findClass_of_methodNamed B.named
  have hlocks := B.notSynchronized
  subst hsz
  have hD := hD0.self (sz := s.heap.size)
  generalize hAe : va_A [(h_t, .inr (7, [.ref h_t_desk, .ref h_t_imageDesk, .ref h_t_deeds, .ref h_t_numbers, .ref h_t_tape, .ref h_t_reader, .ref h_t_speller, .ref h_t_holders, .int t_imageKept])), (h_t_holders, .inl (cH, 6, .inr (.inr (.inr (.inr (fun i => some (d_t_holders i))))))), ((d_t_holders 0), .inr (2, [.int (t_holders_sort 0), .long (t_holders_tree 0), .int (t_holders_limit 0), .ref (q_t_holders 0), .long (t_holders_above 0), .int (t_holders_size 0)])), ((q_t_holders 0), .inl (cI, 20, .inl (a_t_holders 0))), ((d_t_holders 1), .inr (2, [.int (t_holders_sort 1), .long (t_holders_tree 1), .int (t_holders_limit 1), .ref (q_t_holders 1), .long (t_holders_above 1), .int (t_holders_size 1)])), ((q_t_holders 1), .inl (cI, 20, .inl (a_t_holders 1))), ((d_t_holders 2), .inr (2, [.int (t_holders_sort 2), .long (t_holders_tree 2), .int (t_holders_limit 2), .ref (q_t_holders 2), .long (t_holders_above 2), .int (t_holders_size 2)])), ((q_t_holders 2), .inl (cI, 20, .inl (a_t_holders 2))), ((d_t_holders 3), .inr (2, [.int (t_holders_sort 3), .long (t_holders_tree 3), .int (t_holders_limit 3), .ref (q_t_holders 3), .long (t_holders_above 3), .int (t_holders_size 3)])), ((q_t_holders 3), .inl (cI, 20, .inl (a_t_holders 3))), ((d_t_holders 4), .inr (2, [.int (t_holders_sort 4), .long (t_holders_tree 4), .int (t_holders_limit 4), .ref (q_t_holders 4), .long (t_holders_above 4), .int (t_holders_size 4)])), ((q_t_holders 4), .inl (cI, 20, .inl (a_t_holders 4))), ((d_t_holders 5), .inr (2, [.int (t_holders_sort 5), .long (t_holders_tree 5), .int (t_holders_limit 5), .ref (q_t_holders 5), .long (t_holders_above 5), .int (t_holders_size 5)])), ((q_t_holders 5), .inl (cI, 20, .inl (a_t_holders 5)))] s.heap.size = A at hD ⊢
  have hA : ∀ q : Nat, s.heap.size ≤ q → A q := fun q h => by rw [← hAe]; exact Or.inr h
  have hS : va_S A s.heap s.heap [] := va_S.rf
  have hl := lv_entry ([.ref h_t, .int p0, .int p1]) (n := 4) (Nat.le_of_ble_eq_true rfl)
  rw [lg_entry_eq]
  generalize (lg_sl ([.ref h_t, .int p0, .int p1]) ++ List.replicate (4 - (lg_sl ([.ref h_t, .int p0, .int p1])).length) Slot.unset).toArray = ls at hl ⊢
  have hl : lv_has ls 4 [(0, .ref h_t), (1, .int p0), (2, .int p1)] := hl
  have hinX2 : ∀ w ∈ wsX20, w ∈ wsX8_taken := in_X8_taken_X2
  have h := hF
  unfold F_X8_taken at h
  refine lv_aload_n hx hb dX8_taken_0 rfl (lv_at hl 0 rfl) ?_
  refine lv_iload_n hx hb dX8_taken_1 rfl (lv_at hl 1 rfl) ?_
  obtain ⟨x1, hx1, h⟩ := bd_e h
  try dsimp only at h
  have hb1 := k_lt_X8_holderAt hx1
  obtain rfl | rfl | rfl | rfl | rfl | rfl | rfl := k_lt7 hb1
  · refine k_VqU (n := 1) (As := [.int p0]) (rest := []) hx hb hml hown hts (c_X8_holderAt l G cI cJ cD cH s.heap.size h_t h_t_holders h_t_desk h_t_imageDesk h_t_deeds h_t_numbers h_t_tape h_t_reader h_t_speller d_t_holders q_t_holders a_t_holders t_holders_sort t_holders_tree t_holders_limit t_holders_above t_holders_size t_imageKept p0 0 hx1) gX8_taken_X8_holderAt rfl rfl rfl (by decide +kernel) ⟨by first | exact Nat.le_of_ble_eq_true rfl | (simp only [headSpec]; omega), by first | exact Nat.le_of_ble_eq_true rfl | (simp only [headSpec]; omega)⟩ hK hP hD hS hA [0, 1, 2, 3, 4, 5, 6, 7, 8, 9, 10, 11, 12, 13] (by decide) rfl (ci := 7) rfl rfl rfl rfl rfl hl.1 (Nat.le_of_ble_eq_true rfl) dX8_taken_2 ⟨Nat.zero_le _, Nat.zero_le _⟩ (fun hp1 H locs hP hS => ?_)
    refine W.eq (g2 := F0 m 5 ls [.ref (d_t_holders 0)]) rfl ?_
    have h := it_n h (by decide)
    refine lv_astore_n (lv' := [(3, .ref (d_t_holders 0)), (0, .ref h_t), (1, .int p0), (2, .int p1)]) hx hb dX8_taken_5 rfl hl (by decide) rfl (fun ls hl => ?_)
    refine lv_aload_n hx hb dX8_taken_6 rfl (lv_at hl 0 rfl) ?_
    refine lv_ifnull hx hb dX8_taken_7 ?_
    refine lv_iload_n hx hb dX8_taken_10 rfl (lv_at hl 3 rfl) ?_
    refine lv_if_lt (tgt := 19) hx hb dX8_taken_11 (by decide) (fun c2 => ?_) (fun c2 => ?_)
    · have h := it_p h c2
      refine lv_iconst (v := (-1 : Int32)) hx hb dX8_taken_19 (by decide) ?_
      cases h
      exact k_iret hx hb hr hlocks hP hS rfl dX8_taken_20
    have h := it_n h c2
    refine lv_iload_n hx hb dX8_taken_14 rfl (lv_at hl 3 rfl) ?_
    refine lv_iconst (v := (3 : Int32)) hx hb dX8_taken_15 (by decide) ?_
    refine lv_icmp_le (tgt := 21) hx hb dX8_taken_16 (by decide) (fun c3 => ?_) (fun c3 => ?_)
    rotate_left
    · have h := it_n h c3
      refine lv_iconst (v := (-1 : Int32)) hx hb dX8_taken_19 (by decide) ?_
      cases h
      exact k_iret hx hb hr hlocks hP hS rfl dX8_taken_20
    have h := it_p h c3
    refine lv_aload_n hx hb dX8_taken_21 rfl (lv_at hl 0 rfl) ?_
    refine va_get (D := G) (ci := 2) (v := .int (t_holders_sort 0)) (C := RX2) (T := TX2) (N := 6) hx hb hts hinX2 hown hK hP 2 rfl rfl 0 (by decide) (hts (.fieldLink RX8 267 "MarkedCurves$Holder" "sort" "I") (List.mem_of_getElem? (i := 1) (by decide +kernel))) (fun _ h9 => h9) rfl dX8_taken_22 ?_
    refine lv_if_ne (tgt := 31) hx hb dX8_taken_25 (by decide) (fun c4 => ?_) (fun c4 => ?_)
    rotate_left
    · have h := it_p h c4
      refine lv_bipush (v := (-11 : Int32)) hx hb dX8_taken_28 (by decide) ?_
      cases h
      exact k_iret hx hb hr hlocks hP hS rfl dX8_taken_30
    have h := it_n h c4
    refine lv_aload_n hx hb dX8_taken_31 rfl (lv_at hl 0 rfl) ?_
    refine lv_iload_n hx hb dX8_taken_32 rfl (lv_at hl 3 rfl) ?_
    obtain ⟨x5, hx5, h⟩ := bd_e h
    try dsimp only at h
    refine k_ViU (n := 1) (As := [.int p1]) (rest := []) hx hb hml hown hts (c_X2_isOfKind l G cI cJ cD cH H.size (d_t_holders 0) (q_t_holders 0) (t_holders_sort 0) (t_holders_tree 0) (t_holders_limit 0) (t_holders_above 0) (t_holders_size 0) p1 x5 hx5) gX8_taken_X2_isOfKind rfl rfl rfl (by decide +kernel) ⟨by first | exact Nat.le_of_ble_eq_true rfl | (simp only [headSpec]; omega), by first | exact Nat.le_of_ble_eq_true rfl | (simp only [headSpec]; omega)⟩ hK hP hD hS hA [2] (by decide) rfl (ci := 2) rfl rfl rfl rfl rfl hl.1 (Nat.le_of_ble_eq_true rfl) dX8_taken_33 ⟨Nat.zero_le _, Nat.zero_le _⟩ (fun hp5 H locs hP hS => ?_)
    refine lv_if_eq (tgt := 47) hx hb dX8_taken_36 (by decide) (fun c6 => ?_) (fun c6 => ?_)
    · have h := it_p h c6
      refine lv_bipush (v := (-12 : Int32)) hx hb dX8_taken_47 (by decide) ?_
      cases h
      exact k_iret hx hb hr hlocks hP hS rfl dX8_taken_49
    have h := it_n h c6
    refine lv_aload_n hx hb dX8_taken_39 rfl (lv_at hl 0 rfl) ?_
    refine lv_iload_n hx hb dX8_taken_40 rfl (lv_at hl 3 rfl) ?_
    obtain ⟨x7, hx7, h⟩ := bd_e h
    try dsimp only at h
    refine k_ViU (n := 1) (As := [.int p1]) (rest := []) hx hb hml hown hts (c_X2_takenFor l G cI cJ cD cH H.size (d_t_holders 0) (q_t_holders 0) (t_holders_sort 0) (t_holders_tree 0) (t_holders_limit 0) (t_holders_above 0) (t_holders_size 0) p1 x7 hx7) gX8_taken_X2_takenFor rfl rfl rfl (by decide +kernel) ⟨by first | exact Nat.le_of_ble_eq_true rfl | (simp only [headSpec]; omega), by first | exact Nat.le_of_ble_eq_true rfl | (simp only [headSpec]; omega)⟩ hK hP hD hS hA [2] (by decide) rfl (ci := 2) rfl rfl rfl rfl rfl hl.1 (Nat.le_of_ble_eq_true rfl) dX8_taken_41 ⟨Nat.zero_le _, Nat.zero_le _⟩ (fun hp7 H locs hP hS => ?_)
    refine lv_goto (tgt := 49) hx hb dX8_taken_44 (by decide) ?_
    cases h
    exact k_iret hx hb hr hlocks hP hS rfl dX8_taken_49
  · refine k_VqU (n := 1) (As := [.int p0]) (rest := []) hx hb hml hown hts (c_X8_holderAt l G cI cJ cD cH s.heap.size h_t h_t_holders h_t_desk h_t_imageDesk h_t_deeds h_t_numbers h_t_tape h_t_reader h_t_speller d_t_holders q_t_holders a_t_holders t_holders_sort t_holders_tree t_holders_limit t_holders_above t_holders_size t_imageKept p0 1 hx1) gX8_taken_X8_holderAt rfl rfl rfl (by decide +kernel) ⟨by first | exact Nat.le_of_ble_eq_true rfl | (simp only [headSpec]; omega), by first | exact Nat.le_of_ble_eq_true rfl | (simp only [headSpec]; omega)⟩ hK hP hD hS hA [0, 1, 2, 3, 4, 5, 6, 7, 8, 9, 10, 11, 12, 13] (by decide) rfl (ci := 7) rfl rfl rfl rfl rfl hl.1 (Nat.le_of_ble_eq_true rfl) dX8_taken_2 ⟨Nat.zero_le _, Nat.zero_le _⟩ (fun hp1 H locs hP hS => ?_)
    refine W.eq (g2 := F0 m 5 ls [.ref (d_t_holders 1)]) rfl ?_
    have h := it_n h (by decide)
    refine lv_astore_n (lv' := [(3, .ref (d_t_holders 1)), (0, .ref h_t), (1, .int p0), (2, .int p1)]) hx hb dX8_taken_5 rfl hl (by decide) rfl (fun ls hl => ?_)
    refine lv_aload_n hx hb dX8_taken_6 rfl (lv_at hl 0 rfl) ?_
    refine lv_ifnull hx hb dX8_taken_7 ?_
    refine lv_iload_n hx hb dX8_taken_10 rfl (lv_at hl 3 rfl) ?_
    refine lv_if_lt (tgt := 19) hx hb dX8_taken_11 (by decide) (fun c2 => ?_) (fun c2 => ?_)
    · have h := it_p h c2
      refine lv_iconst (v := (-1 : Int32)) hx hb dX8_taken_19 (by decide) ?_
      cases h
      exact k_iret hx hb hr hlocks hP hS rfl dX8_taken_20
    have h := it_n h c2
    refine lv_iload_n hx hb dX8_taken_14 rfl (lv_at hl 3 rfl) ?_
    refine lv_iconst (v := (3 : Int32)) hx hb dX8_taken_15 (by decide) ?_
    refine lv_icmp_le (tgt := 21) hx hb dX8_taken_16 (by decide) (fun c3 => ?_) (fun c3 => ?_)
    rotate_left
    · have h := it_n h c3
      refine lv_iconst (v := (-1 : Int32)) hx hb dX8_taken_19 (by decide) ?_
      cases h
      exact k_iret hx hb hr hlocks hP hS rfl dX8_taken_20
    have h := it_p h c3
    refine lv_aload_n hx hb dX8_taken_21 rfl (lv_at hl 0 rfl) ?_
    refine va_get (D := G) (ci := 2) (v := .int (t_holders_sort 1)) (C := RX2) (T := TX2) (N := 6) hx hb hts hinX2 hown hK hP 4 rfl rfl 0 (by decide) (hts (.fieldLink RX8 267 "MarkedCurves$Holder" "sort" "I") (List.mem_of_getElem? (i := 1) (by decide +kernel))) (fun _ h9 => h9) rfl dX8_taken_22 ?_
    refine lv_if_ne (tgt := 31) hx hb dX8_taken_25 (by decide) (fun c4 => ?_) (fun c4 => ?_)
    rotate_left
    · have h := it_p h c4
      refine lv_bipush (v := (-11 : Int32)) hx hb dX8_taken_28 (by decide) ?_
      cases h
      exact k_iret hx hb hr hlocks hP hS rfl dX8_taken_30
    have h := it_n h c4
    refine lv_aload_n hx hb dX8_taken_31 rfl (lv_at hl 0 rfl) ?_
    refine lv_iload_n hx hb dX8_taken_32 rfl (lv_at hl 3 rfl) ?_
    obtain ⟨x5, hx5, h⟩ := bd_e h
    try dsimp only at h
    refine k_ViU (n := 1) (As := [.int p1]) (rest := []) hx hb hml hown hts (c_X2_isOfKind l G cI cJ cD cH H.size (d_t_holders 1) (q_t_holders 1) (t_holders_sort 1) (t_holders_tree 1) (t_holders_limit 1) (t_holders_above 1) (t_holders_size 1) p1 x5 hx5) gX8_taken_X2_isOfKind rfl rfl rfl (by decide +kernel) ⟨by first | exact Nat.le_of_ble_eq_true rfl | (simp only [headSpec]; omega), by first | exact Nat.le_of_ble_eq_true rfl | (simp only [headSpec]; omega)⟩ hK hP hD hS hA [4] (by decide) rfl (ci := 2) rfl rfl rfl rfl rfl hl.1 (Nat.le_of_ble_eq_true rfl) dX8_taken_33 ⟨Nat.zero_le _, Nat.zero_le _⟩ (fun hp5 H locs hP hS => ?_)
    refine lv_if_eq (tgt := 47) hx hb dX8_taken_36 (by decide) (fun c6 => ?_) (fun c6 => ?_)
    · have h := it_p h c6
      refine lv_bipush (v := (-12 : Int32)) hx hb dX8_taken_47 (by decide) ?_
      cases h
      exact k_iret hx hb hr hlocks hP hS rfl dX8_taken_49
    have h := it_n h c6
    refine lv_aload_n hx hb dX8_taken_39 rfl (lv_at hl 0 rfl) ?_
    refine lv_iload_n hx hb dX8_taken_40 rfl (lv_at hl 3 rfl) ?_
    obtain ⟨x7, hx7, h⟩ := bd_e h
    try dsimp only at h
    refine k_ViU (n := 1) (As := [.int p1]) (rest := []) hx hb hml hown hts (c_X2_takenFor l G cI cJ cD cH H.size (d_t_holders 1) (q_t_holders 1) (t_holders_sort 1) (t_holders_tree 1) (t_holders_limit 1) (t_holders_above 1) (t_holders_size 1) p1 x7 hx7) gX8_taken_X2_takenFor rfl rfl rfl (by decide +kernel) ⟨by first | exact Nat.le_of_ble_eq_true rfl | (simp only [headSpec]; omega), by first | exact Nat.le_of_ble_eq_true rfl | (simp only [headSpec]; omega)⟩ hK hP hD hS hA [4] (by decide) rfl (ci := 2) rfl rfl rfl rfl rfl hl.1 (Nat.le_of_ble_eq_true rfl) dX8_taken_41 ⟨Nat.zero_le _, Nat.zero_le _⟩ (fun hp7 H locs hP hS => ?_)
    refine lv_goto (tgt := 49) hx hb dX8_taken_44 (by decide) ?_
    cases h
    exact k_iret hx hb hr hlocks hP hS rfl dX8_taken_49
  · refine k_VqU (n := 1) (As := [.int p0]) (rest := []) hx hb hml hown hts (c_X8_holderAt l G cI cJ cD cH s.heap.size h_t h_t_holders h_t_desk h_t_imageDesk h_t_deeds h_t_numbers h_t_tape h_t_reader h_t_speller d_t_holders q_t_holders a_t_holders t_holders_sort t_holders_tree t_holders_limit t_holders_above t_holders_size t_imageKept p0 2 hx1) gX8_taken_X8_holderAt rfl rfl rfl (by decide +kernel) ⟨by first | exact Nat.le_of_ble_eq_true rfl | (simp only [headSpec]; omega), by first | exact Nat.le_of_ble_eq_true rfl | (simp only [headSpec]; omega)⟩ hK hP hD hS hA [0, 1, 2, 3, 4, 5, 6, 7, 8, 9, 10, 11, 12, 13] (by decide) rfl (ci := 7) rfl rfl rfl rfl rfl hl.1 (Nat.le_of_ble_eq_true rfl) dX8_taken_2 ⟨Nat.zero_le _, Nat.zero_le _⟩ (fun hp1 H locs hP hS => ?_)
    refine W.eq (g2 := F0 m 5 ls [.ref (d_t_holders 2)]) rfl ?_
    have h := it_n h (by decide)
    refine lv_astore_n (lv' := [(3, .ref (d_t_holders 2)), (0, .ref h_t), (1, .int p0), (2, .int p1)]) hx hb dX8_taken_5 rfl hl (by decide) rfl (fun ls hl => ?_)
    refine lv_aload_n hx hb dX8_taken_6 rfl (lv_at hl 0 rfl) ?_
    refine lv_ifnull hx hb dX8_taken_7 ?_
    refine lv_iload_n hx hb dX8_taken_10 rfl (lv_at hl 3 rfl) ?_
    refine lv_if_lt (tgt := 19) hx hb dX8_taken_11 (by decide) (fun c2 => ?_) (fun c2 => ?_)
    · have h := it_p h c2
      refine lv_iconst (v := (-1 : Int32)) hx hb dX8_taken_19 (by decide) ?_
      cases h
      exact k_iret hx hb hr hlocks hP hS rfl dX8_taken_20
    have h := it_n h c2
    refine lv_iload_n hx hb dX8_taken_14 rfl (lv_at hl 3 rfl) ?_
    refine lv_iconst (v := (3 : Int32)) hx hb dX8_taken_15 (by decide) ?_
    refine lv_icmp_le (tgt := 21) hx hb dX8_taken_16 (by decide) (fun c3 => ?_) (fun c3 => ?_)
    rotate_left
    · have h := it_n h c3
      refine lv_iconst (v := (-1 : Int32)) hx hb dX8_taken_19 (by decide) ?_
      cases h
      exact k_iret hx hb hr hlocks hP hS rfl dX8_taken_20
    have h := it_p h c3
    refine lv_aload_n hx hb dX8_taken_21 rfl (lv_at hl 0 rfl) ?_
    refine va_get (D := G) (ci := 2) (v := .int (t_holders_sort 2)) (C := RX2) (T := TX2) (N := 6) hx hb hts hinX2 hown hK hP 6 rfl rfl 0 (by decide) (hts (.fieldLink RX8 267 "MarkedCurves$Holder" "sort" "I") (List.mem_of_getElem? (i := 1) (by decide +kernel))) (fun _ h9 => h9) rfl dX8_taken_22 ?_
    refine lv_if_ne (tgt := 31) hx hb dX8_taken_25 (by decide) (fun c4 => ?_) (fun c4 => ?_)
    rotate_left
    · have h := it_p h c4
      refine lv_bipush (v := (-11 : Int32)) hx hb dX8_taken_28 (by decide) ?_
      cases h
      exact k_iret hx hb hr hlocks hP hS rfl dX8_taken_30
    have h := it_n h c4
    refine lv_aload_n hx hb dX8_taken_31 rfl (lv_at hl 0 rfl) ?_
    refine lv_iload_n hx hb dX8_taken_32 rfl (lv_at hl 3 rfl) ?_
    obtain ⟨x5, hx5, h⟩ := bd_e h
    try dsimp only at h
    refine k_ViU (n := 1) (As := [.int p1]) (rest := []) hx hb hml hown hts (c_X2_isOfKind l G cI cJ cD cH H.size (d_t_holders 2) (q_t_holders 2) (t_holders_sort 2) (t_holders_tree 2) (t_holders_limit 2) (t_holders_above 2) (t_holders_size 2) p1 x5 hx5) gX8_taken_X2_isOfKind rfl rfl rfl (by decide +kernel) ⟨by first | exact Nat.le_of_ble_eq_true rfl | (simp only [headSpec]; omega), by first | exact Nat.le_of_ble_eq_true rfl | (simp only [headSpec]; omega)⟩ hK hP hD hS hA [6] (by decide) rfl (ci := 2) rfl rfl rfl rfl rfl hl.1 (Nat.le_of_ble_eq_true rfl) dX8_taken_33 ⟨Nat.zero_le _, Nat.zero_le _⟩ (fun hp5 H locs hP hS => ?_)
    refine lv_if_eq (tgt := 47) hx hb dX8_taken_36 (by decide) (fun c6 => ?_) (fun c6 => ?_)
    · have h := it_p h c6
      refine lv_bipush (v := (-12 : Int32)) hx hb dX8_taken_47 (by decide) ?_
      cases h
      exact k_iret hx hb hr hlocks hP hS rfl dX8_taken_49
    have h := it_n h c6
    refine lv_aload_n hx hb dX8_taken_39 rfl (lv_at hl 0 rfl) ?_
    refine lv_iload_n hx hb dX8_taken_40 rfl (lv_at hl 3 rfl) ?_
    obtain ⟨x7, hx7, h⟩ := bd_e h
    try dsimp only at h
    refine k_ViU (n := 1) (As := [.int p1]) (rest := []) hx hb hml hown hts (c_X2_takenFor l G cI cJ cD cH H.size (d_t_holders 2) (q_t_holders 2) (t_holders_sort 2) (t_holders_tree 2) (t_holders_limit 2) (t_holders_above 2) (t_holders_size 2) p1 x7 hx7) gX8_taken_X2_takenFor rfl rfl rfl (by decide +kernel) ⟨by first | exact Nat.le_of_ble_eq_true rfl | (simp only [headSpec]; omega), by first | exact Nat.le_of_ble_eq_true rfl | (simp only [headSpec]; omega)⟩ hK hP hD hS hA [6] (by decide) rfl (ci := 2) rfl rfl rfl rfl rfl hl.1 (Nat.le_of_ble_eq_true rfl) dX8_taken_41 ⟨Nat.zero_le _, Nat.zero_le _⟩ (fun hp7 H locs hP hS => ?_)
    refine lv_goto (tgt := 49) hx hb dX8_taken_44 (by decide) ?_
    cases h
    exact k_iret hx hb hr hlocks hP hS rfl dX8_taken_49
  · refine k_VqU (n := 1) (As := [.int p0]) (rest := []) hx hb hml hown hts (c_X8_holderAt l G cI cJ cD cH s.heap.size h_t h_t_holders h_t_desk h_t_imageDesk h_t_deeds h_t_numbers h_t_tape h_t_reader h_t_speller d_t_holders q_t_holders a_t_holders t_holders_sort t_holders_tree t_holders_limit t_holders_above t_holders_size t_imageKept p0 3 hx1) gX8_taken_X8_holderAt rfl rfl rfl (by decide +kernel) ⟨by first | exact Nat.le_of_ble_eq_true rfl | (simp only [headSpec]; omega), by first | exact Nat.le_of_ble_eq_true rfl | (simp only [headSpec]; omega)⟩ hK hP hD hS hA [0, 1, 2, 3, 4, 5, 6, 7, 8, 9, 10, 11, 12, 13] (by decide) rfl (ci := 7) rfl rfl rfl rfl rfl hl.1 (Nat.le_of_ble_eq_true rfl) dX8_taken_2 ⟨Nat.zero_le _, Nat.zero_le _⟩ (fun hp1 H locs hP hS => ?_)
    refine W.eq (g2 := F0 m 5 ls [.ref (d_t_holders 3)]) rfl ?_
    have h := it_n h (by decide)
    refine lv_astore_n (lv' := [(3, .ref (d_t_holders 3)), (0, .ref h_t), (1, .int p0), (2, .int p1)]) hx hb dX8_taken_5 rfl hl (by decide) rfl (fun ls hl => ?_)
    refine lv_aload_n hx hb dX8_taken_6 rfl (lv_at hl 0 rfl) ?_
    refine lv_ifnull hx hb dX8_taken_7 ?_
    refine lv_iload_n hx hb dX8_taken_10 rfl (lv_at hl 3 rfl) ?_
    refine lv_if_lt (tgt := 19) hx hb dX8_taken_11 (by decide) (fun c2 => ?_) (fun c2 => ?_)
    · have h := it_p h c2
      refine lv_iconst (v := (-1 : Int32)) hx hb dX8_taken_19 (by decide) ?_
      cases h
      exact k_iret hx hb hr hlocks hP hS rfl dX8_taken_20
    have h := it_n h c2
    refine lv_iload_n hx hb dX8_taken_14 rfl (lv_at hl 3 rfl) ?_
    refine lv_iconst (v := (3 : Int32)) hx hb dX8_taken_15 (by decide) ?_
    refine lv_icmp_le (tgt := 21) hx hb dX8_taken_16 (by decide) (fun c3 => ?_) (fun c3 => ?_)
    rotate_left
    · have h := it_n h c3
      refine lv_iconst (v := (-1 : Int32)) hx hb dX8_taken_19 (by decide) ?_
      cases h
      exact k_iret hx hb hr hlocks hP hS rfl dX8_taken_20
    have h := it_p h c3
    refine lv_aload_n hx hb dX8_taken_21 rfl (lv_at hl 0 rfl) ?_
    refine va_get (D := G) (ci := 2) (v := .int (t_holders_sort 3)) (C := RX2) (T := TX2) (N := 6) hx hb hts hinX2 hown hK hP 8 rfl rfl 0 (by decide) (hts (.fieldLink RX8 267 "MarkedCurves$Holder" "sort" "I") (List.mem_of_getElem? (i := 1) (by decide +kernel))) (fun _ h9 => h9) rfl dX8_taken_22 ?_
    refine lv_if_ne (tgt := 31) hx hb dX8_taken_25 (by decide) (fun c4 => ?_) (fun c4 => ?_)
    rotate_left
    · have h := it_p h c4
      refine lv_bipush (v := (-11 : Int32)) hx hb dX8_taken_28 (by decide) ?_
      cases h
      exact k_iret hx hb hr hlocks hP hS rfl dX8_taken_30
    have h := it_n h c4
    refine lv_aload_n hx hb dX8_taken_31 rfl (lv_at hl 0 rfl) ?_
    refine lv_iload_n hx hb dX8_taken_32 rfl (lv_at hl 3 rfl) ?_
    obtain ⟨x5, hx5, h⟩ := bd_e h
    try dsimp only at h
    refine k_ViU (n := 1) (As := [.int p1]) (rest := []) hx hb hml hown hts (c_X2_isOfKind l G cI cJ cD cH H.size (d_t_holders 3) (q_t_holders 3) (t_holders_sort 3) (t_holders_tree 3) (t_holders_limit 3) (t_holders_above 3) (t_holders_size 3) p1 x5 hx5) gX8_taken_X2_isOfKind rfl rfl rfl (by decide +kernel) ⟨by first | exact Nat.le_of_ble_eq_true rfl | (simp only [headSpec]; omega), by first | exact Nat.le_of_ble_eq_true rfl | (simp only [headSpec]; omega)⟩ hK hP hD hS hA [8] (by decide) rfl (ci := 2) rfl rfl rfl rfl rfl hl.1 (Nat.le_of_ble_eq_true rfl) dX8_taken_33 ⟨Nat.zero_le _, Nat.zero_le _⟩ (fun hp5 H locs hP hS => ?_)
    refine lv_if_eq (tgt := 47) hx hb dX8_taken_36 (by decide) (fun c6 => ?_) (fun c6 => ?_)
    · have h := it_p h c6
      refine lv_bipush (v := (-12 : Int32)) hx hb dX8_taken_47 (by decide) ?_
      cases h
      exact k_iret hx hb hr hlocks hP hS rfl dX8_taken_49
    have h := it_n h c6
    refine lv_aload_n hx hb dX8_taken_39 rfl (lv_at hl 0 rfl) ?_
    refine lv_iload_n hx hb dX8_taken_40 rfl (lv_at hl 3 rfl) ?_
    obtain ⟨x7, hx7, h⟩ := bd_e h
    try dsimp only at h
    refine k_ViU (n := 1) (As := [.int p1]) (rest := []) hx hb hml hown hts (c_X2_takenFor l G cI cJ cD cH H.size (d_t_holders 3) (q_t_holders 3) (t_holders_sort 3) (t_holders_tree 3) (t_holders_limit 3) (t_holders_above 3) (t_holders_size 3) p1 x7 hx7) gX8_taken_X2_takenFor rfl rfl rfl (by decide +kernel) ⟨by first | exact Nat.le_of_ble_eq_true rfl | (simp only [headSpec]; omega), by first | exact Nat.le_of_ble_eq_true rfl | (simp only [headSpec]; omega)⟩ hK hP hD hS hA [8] (by decide) rfl (ci := 2) rfl rfl rfl rfl rfl hl.1 (Nat.le_of_ble_eq_true rfl) dX8_taken_41 ⟨Nat.zero_le _, Nat.zero_le _⟩ (fun hp7 H locs hP hS => ?_)
    refine lv_goto (tgt := 49) hx hb dX8_taken_44 (by decide) ?_
    cases h
    exact k_iret hx hb hr hlocks hP hS rfl dX8_taken_49
  · refine k_VqU (n := 1) (As := [.int p0]) (rest := []) hx hb hml hown hts (c_X8_holderAt l G cI cJ cD cH s.heap.size h_t h_t_holders h_t_desk h_t_imageDesk h_t_deeds h_t_numbers h_t_tape h_t_reader h_t_speller d_t_holders q_t_holders a_t_holders t_holders_sort t_holders_tree t_holders_limit t_holders_above t_holders_size t_imageKept p0 4 hx1) gX8_taken_X8_holderAt rfl rfl rfl (by decide +kernel) ⟨by first | exact Nat.le_of_ble_eq_true rfl | (simp only [headSpec]; omega), by first | exact Nat.le_of_ble_eq_true rfl | (simp only [headSpec]; omega)⟩ hK hP hD hS hA [0, 1, 2, 3, 4, 5, 6, 7, 8, 9, 10, 11, 12, 13] (by decide) rfl (ci := 7) rfl rfl rfl rfl rfl hl.1 (Nat.le_of_ble_eq_true rfl) dX8_taken_2 ⟨Nat.zero_le _, Nat.zero_le _⟩ (fun hp1 H locs hP hS => ?_)
    refine W.eq (g2 := F0 m 5 ls [.ref (d_t_holders 4)]) rfl ?_
    have h := it_n h (by decide)
    refine lv_astore_n (lv' := [(3, .ref (d_t_holders 4)), (0, .ref h_t), (1, .int p0), (2, .int p1)]) hx hb dX8_taken_5 rfl hl (by decide) rfl (fun ls hl => ?_)
    refine lv_aload_n hx hb dX8_taken_6 rfl (lv_at hl 0 rfl) ?_
    refine lv_ifnull hx hb dX8_taken_7 ?_
    refine lv_iload_n hx hb dX8_taken_10 rfl (lv_at hl 3 rfl) ?_
    refine lv_if_lt (tgt := 19) hx hb dX8_taken_11 (by decide) (fun c2 => ?_) (fun c2 => ?_)
    · have h := it_p h c2
      refine lv_iconst (v := (-1 : Int32)) hx hb dX8_taken_19 (by decide) ?_
      cases h
      exact k_iret hx hb hr hlocks hP hS rfl dX8_taken_20
    have h := it_n h c2
    refine lv_iload_n hx hb dX8_taken_14 rfl (lv_at hl 3 rfl) ?_
    refine lv_iconst (v := (3 : Int32)) hx hb dX8_taken_15 (by decide) ?_
    refine lv_icmp_le (tgt := 21) hx hb dX8_taken_16 (by decide) (fun c3 => ?_) (fun c3 => ?_)
    rotate_left
    · have h := it_n h c3
      refine lv_iconst (v := (-1 : Int32)) hx hb dX8_taken_19 (by decide) ?_
      cases h
      exact k_iret hx hb hr hlocks hP hS rfl dX8_taken_20
    have h := it_p h c3
    refine lv_aload_n hx hb dX8_taken_21 rfl (lv_at hl 0 rfl) ?_
    refine va_get (D := G) (ci := 2) (v := .int (t_holders_sort 4)) (C := RX2) (T := TX2) (N := 6) hx hb hts hinX2 hown hK hP 10 rfl rfl 0 (by decide) (hts (.fieldLink RX8 267 "MarkedCurves$Holder" "sort" "I") (List.mem_of_getElem? (i := 1) (by decide +kernel))) (fun _ h9 => h9) rfl dX8_taken_22 ?_
    refine lv_if_ne (tgt := 31) hx hb dX8_taken_25 (by decide) (fun c4 => ?_) (fun c4 => ?_)
    rotate_left
    · have h := it_p h c4
      refine lv_bipush (v := (-11 : Int32)) hx hb dX8_taken_28 (by decide) ?_
      cases h
      exact k_iret hx hb hr hlocks hP hS rfl dX8_taken_30
    have h := it_n h c4
    refine lv_aload_n hx hb dX8_taken_31 rfl (lv_at hl 0 rfl) ?_
    refine lv_iload_n hx hb dX8_taken_32 rfl (lv_at hl 3 rfl) ?_
    obtain ⟨x5, hx5, h⟩ := bd_e h
    try dsimp only at h
    refine k_ViU (n := 1) (As := [.int p1]) (rest := []) hx hb hml hown hts (c_X2_isOfKind l G cI cJ cD cH H.size (d_t_holders 4) (q_t_holders 4) (t_holders_sort 4) (t_holders_tree 4) (t_holders_limit 4) (t_holders_above 4) (t_holders_size 4) p1 x5 hx5) gX8_taken_X2_isOfKind rfl rfl rfl (by decide +kernel) ⟨by first | exact Nat.le_of_ble_eq_true rfl | (simp only [headSpec]; omega), by first | exact Nat.le_of_ble_eq_true rfl | (simp only [headSpec]; omega)⟩ hK hP hD hS hA [10] (by decide) rfl (ci := 2) rfl rfl rfl rfl rfl hl.1 (Nat.le_of_ble_eq_true rfl) dX8_taken_33 ⟨Nat.zero_le _, Nat.zero_le _⟩ (fun hp5 H locs hP hS => ?_)
    refine lv_if_eq (tgt := 47) hx hb dX8_taken_36 (by decide) (fun c6 => ?_) (fun c6 => ?_)
    · have h := it_p h c6
      refine lv_bipush (v := (-12 : Int32)) hx hb dX8_taken_47 (by decide) ?_
      cases h
      exact k_iret hx hb hr hlocks hP hS rfl dX8_taken_49
    have h := it_n h c6
    refine lv_aload_n hx hb dX8_taken_39 rfl (lv_at hl 0 rfl) ?_
    refine lv_iload_n hx hb dX8_taken_40 rfl (lv_at hl 3 rfl) ?_
    obtain ⟨x7, hx7, h⟩ := bd_e h
    try dsimp only at h
    refine k_ViU (n := 1) (As := [.int p1]) (rest := []) hx hb hml hown hts (c_X2_takenFor l G cI cJ cD cH H.size (d_t_holders 4) (q_t_holders 4) (t_holders_sort 4) (t_holders_tree 4) (t_holders_limit 4) (t_holders_above 4) (t_holders_size 4) p1 x7 hx7) gX8_taken_X2_takenFor rfl rfl rfl (by decide +kernel) ⟨by first | exact Nat.le_of_ble_eq_true rfl | (simp only [headSpec]; omega), by first | exact Nat.le_of_ble_eq_true rfl | (simp only [headSpec]; omega)⟩ hK hP hD hS hA [10] (by decide) rfl (ci := 2) rfl rfl rfl rfl rfl hl.1 (Nat.le_of_ble_eq_true rfl) dX8_taken_41 ⟨Nat.zero_le _, Nat.zero_le _⟩ (fun hp7 H locs hP hS => ?_)
    refine lv_goto (tgt := 49) hx hb dX8_taken_44 (by decide) ?_
    cases h
    exact k_iret hx hb hr hlocks hP hS rfl dX8_taken_49
  · refine k_VqU (n := 1) (As := [.int p0]) (rest := []) hx hb hml hown hts (c_X8_holderAt l G cI cJ cD cH s.heap.size h_t h_t_holders h_t_desk h_t_imageDesk h_t_deeds h_t_numbers h_t_tape h_t_reader h_t_speller d_t_holders q_t_holders a_t_holders t_holders_sort t_holders_tree t_holders_limit t_holders_above t_holders_size t_imageKept p0 5 hx1) gX8_taken_X8_holderAt rfl rfl rfl (by decide +kernel) ⟨by first | exact Nat.le_of_ble_eq_true rfl | (simp only [headSpec]; omega), by first | exact Nat.le_of_ble_eq_true rfl | (simp only [headSpec]; omega)⟩ hK hP hD hS hA [0, 1, 2, 3, 4, 5, 6, 7, 8, 9, 10, 11, 12, 13] (by decide) rfl (ci := 7) rfl rfl rfl rfl rfl hl.1 (Nat.le_of_ble_eq_true rfl) dX8_taken_2 ⟨Nat.zero_le _, Nat.zero_le _⟩ (fun hp1 H locs hP hS => ?_)
    refine W.eq (g2 := F0 m 5 ls [.ref (d_t_holders 5)]) rfl ?_
    have h := it_n h (by decide)
    refine lv_astore_n (lv' := [(3, .ref (d_t_holders 5)), (0, .ref h_t), (1, .int p0), (2, .int p1)]) hx hb dX8_taken_5 rfl hl (by decide) rfl (fun ls hl => ?_)
    refine lv_aload_n hx hb dX8_taken_6 rfl (lv_at hl 0 rfl) ?_
    refine lv_ifnull hx hb dX8_taken_7 ?_
    refine lv_iload_n hx hb dX8_taken_10 rfl (lv_at hl 3 rfl) ?_
    refine lv_if_lt (tgt := 19) hx hb dX8_taken_11 (by decide) (fun c2 => ?_) (fun c2 => ?_)
    · have h := it_p h c2
      refine lv_iconst (v := (-1 : Int32)) hx hb dX8_taken_19 (by decide) ?_
      cases h
      exact k_iret hx hb hr hlocks hP hS rfl dX8_taken_20
    have h := it_n h c2
    refine lv_iload_n hx hb dX8_taken_14 rfl (lv_at hl 3 rfl) ?_
    refine lv_iconst (v := (3 : Int32)) hx hb dX8_taken_15 (by decide) ?_
    refine lv_icmp_le (tgt := 21) hx hb dX8_taken_16 (by decide) (fun c3 => ?_) (fun c3 => ?_)
    rotate_left
    · have h := it_n h c3
      refine lv_iconst (v := (-1 : Int32)) hx hb dX8_taken_19 (by decide) ?_
      cases h
      exact k_iret hx hb hr hlocks hP hS rfl dX8_taken_20
    have h := it_p h c3
    refine lv_aload_n hx hb dX8_taken_21 rfl (lv_at hl 0 rfl) ?_
    refine va_get (D := G) (ci := 2) (v := .int (t_holders_sort 5)) (C := RX2) (T := TX2) (N := 6) hx hb hts hinX2 hown hK hP 12 rfl rfl 0 (by decide) (hts (.fieldLink RX8 267 "MarkedCurves$Holder" "sort" "I") (List.mem_of_getElem? (i := 1) (by decide +kernel))) (fun _ h9 => h9) rfl dX8_taken_22 ?_
    refine lv_if_ne (tgt := 31) hx hb dX8_taken_25 (by decide) (fun c4 => ?_) (fun c4 => ?_)
    rotate_left
    · have h := it_p h c4
      refine lv_bipush (v := (-11 : Int32)) hx hb dX8_taken_28 (by decide) ?_
      cases h
      exact k_iret hx hb hr hlocks hP hS rfl dX8_taken_30
    have h := it_n h c4
    refine lv_aload_n hx hb dX8_taken_31 rfl (lv_at hl 0 rfl) ?_
    refine lv_iload_n hx hb dX8_taken_32 rfl (lv_at hl 3 rfl) ?_
    obtain ⟨x5, hx5, h⟩ := bd_e h
    try dsimp only at h
    refine k_ViU (n := 1) (As := [.int p1]) (rest := []) hx hb hml hown hts (c_X2_isOfKind l G cI cJ cD cH H.size (d_t_holders 5) (q_t_holders 5) (t_holders_sort 5) (t_holders_tree 5) (t_holders_limit 5) (t_holders_above 5) (t_holders_size 5) p1 x5 hx5) gX8_taken_X2_isOfKind rfl rfl rfl (by decide +kernel) ⟨by first | exact Nat.le_of_ble_eq_true rfl | (simp only [headSpec]; omega), by first | exact Nat.le_of_ble_eq_true rfl | (simp only [headSpec]; omega)⟩ hK hP hD hS hA [12] (by decide) rfl (ci := 2) rfl rfl rfl rfl rfl hl.1 (Nat.le_of_ble_eq_true rfl) dX8_taken_33 ⟨Nat.zero_le _, Nat.zero_le _⟩ (fun hp5 H locs hP hS => ?_)
    refine lv_if_eq (tgt := 47) hx hb dX8_taken_36 (by decide) (fun c6 => ?_) (fun c6 => ?_)
    · have h := it_p h c6
      refine lv_bipush (v := (-12 : Int32)) hx hb dX8_taken_47 (by decide) ?_
      cases h
      exact k_iret hx hb hr hlocks hP hS rfl dX8_taken_49
    have h := it_n h c6
    refine lv_aload_n hx hb dX8_taken_39 rfl (lv_at hl 0 rfl) ?_
    refine lv_iload_n hx hb dX8_taken_40 rfl (lv_at hl 3 rfl) ?_
    obtain ⟨x7, hx7, h⟩ := bd_e h
    try dsimp only at h
    refine k_ViU (n := 1) (As := [.int p1]) (rest := []) hx hb hml hown hts (c_X2_takenFor l G cI cJ cD cH H.size (d_t_holders 5) (q_t_holders 5) (t_holders_sort 5) (t_holders_tree 5) (t_holders_limit 5) (t_holders_above 5) (t_holders_size 5) p1 x7 hx7) gX8_taken_X2_takenFor rfl rfl rfl (by decide +kernel) ⟨by first | exact Nat.le_of_ble_eq_true rfl | (simp only [headSpec]; omega), by first | exact Nat.le_of_ble_eq_true rfl | (simp only [headSpec]; omega)⟩ hK hP hD hS hA [12] (by decide) rfl (ci := 2) rfl rfl rfl rfl rfl hl.1 (Nat.le_of_ble_eq_true rfl) dX8_taken_41 ⟨Nat.zero_le _, Nat.zero_le _⟩ (fun hp7 H locs hP hS => ?_)
    refine lv_goto (tgt := 49) hx hb dX8_taken_44 (by decide) ?_
    cases h
    exact k_iret hx hb hr hlocks hP hS rfl dX8_taken_49
  · refine k_VqU (n := 1) (As := [.int p0]) (rest := []) hx hb hml hown hts (c_X8_holderAt l G cI cJ cD cH s.heap.size h_t h_t_holders h_t_desk h_t_imageDesk h_t_deeds h_t_numbers h_t_tape h_t_reader h_t_speller d_t_holders q_t_holders a_t_holders t_holders_sort t_holders_tree t_holders_limit t_holders_above t_holders_size t_imageKept p0 6 hx1) gX8_taken_X8_holderAt rfl rfl rfl (by decide +kernel) ⟨by first | exact Nat.le_of_ble_eq_true rfl | (simp only [headSpec]; omega), by first | exact Nat.le_of_ble_eq_true rfl | (simp only [headSpec]; omega)⟩ hK hP hD hS hA [0, 1, 2, 3, 4, 5, 6, 7, 8, 9, 10, 11, 12, 13] (by decide) rfl (ci := 7) rfl rfl rfl rfl rfl hl.1 (Nat.le_of_ble_eq_true rfl) dX8_taken_2 ⟨Nat.zero_le _, Nat.zero_le _⟩ (fun hp1 H locs hP hS => ?_)
    refine W.eq (g2 := F0 m 5 ls [.null]) rfl ?_
    have h := it_p h rfl
    refine lv_astore_nN (lv' := [(3, .null), (0, .ref h_t), (1, .int p0), (2, .int p1)]) hx hb dX8_taken_5 rfl hl (by decide) rfl (fun ls hl => ?_)
    refine lv_aload_nN hx hb dX8_taken_6 rfl (lv_at hl 0 rfl) ?_
    refine lv_ifnullN (tgt := 19) hx hb dX8_taken_7 (by decide) ?_
    refine lv_iconst (v := (-1 : Int32)) hx hb dX8_taken_19 (by decide) ?_
    cases h
    exact k_iret hx hb hr hlocks hP hS rfl dX8_taken_20

/-! X8_refusalOfN -/
noncomputable def F_X8_refusalOfN  : Option (Int32) :=
  some (-1 : Int32)
set_option maxHeartbeats 4000000 in
set_option maxRecDepth 100000 in
theorem c_X8_refusalOfN (l : Launch) (G : va_G) (cI cJ cD cH : ClassId) (sz : Nat) (p1 : Int32) (r0 : Int32) (hF : F_X8_refusalOfN  = some r0) : Met l yX8_refusalOf wsX8_refusalOf ({ frames := 0, cells := 0, slots := 0, locals := 0 }) (k_pre G (k_T cI cJ cD cH) [] sz [.null, .int p1]) (va_Qi (fun r (_ : Unit) => r = r0 ∧ True) (fun _ t => va_P G vwCl [] t.heap) (va_A [] sz)) 0 0 (va_A [] sz) := by
  refine Met.ofW (cc := cX8_refusalOf) (maxL := 2) (ret := (some .int)) (by decide) rfl ?_
  intro p e s m args below meth c s₁ B hml hv
  obtain ⟨rfl, hsz, hP, hK, hD0⟩ := hv
  have hx := B.exec
  have hb := B.bytes
  have hr := B.returns
  have hts := atoms_spec (ws := wsX8_refusalOf) B.pre
  have hown : s.vm.findClass RX8 = some m.cls := findClass_of_methodNamed B.named
  have hlocks := B.notSynchronized
  subst hsz
  have hD := hD0.self (sz := s.heap.size)
  generalize hAe : va_A [] s.heap.size = A at hD ⊢
  have hA : ∀ q : Nat, s.heap.size ≤ q → A q := fun q h => by rw [← hAe]; exact Or.inr h
  have hS : va_S A s.heap s.heap [] := va_S.rf
  have hl := lv_entry ([.null, .int p1]) (n := 2) (Nat.le_of_ble_eq_true rfl)
  rw [lg_entry_eq]
  generalize (lg_sl ([.null, .int p1]) ++ List.replicate (2 - (lg_sl ([.null, .int p1])).length) Slot.unset).toArray = ls at hl ⊢
  have hl : lv_has ls 2 [(0, .null), (1, .int p1)] := hl
  have h := hF
  unfold F_X8_refusalOfN at h
  refine lv_aload_nN hx hb dX8_refusalOf_0 rfl (lv_at hl 0 rfl) ?_
  refine lv_ifnonnullN hx hb dX8_refusalOf_1 ?_
  refine lv_iconst (v := (-1 : Int32)) hx hb dX8_refusalOf_4 (by decide) ?_
  cases h
  exact k_iret hx hb hr hlocks hP hS rfl dX8_refusalOf_5

/-! X8_refusalOf -/
noncomputable def F_X8_refusalOf (p0_sort : Int32) (p1 : Int32) : Option (Int32) :=
  if p0_sort = 0 then (some (-11 : Int32)) else (if p0_sort = p1 then (some (0 : Int32)) else (some (-12 : Int32)))
theorem in_X8_refusalOf_X2 : ∀ w ∈ wsX20, w ∈ wsX8_refusalOf := mem_r _ [2, 3, 4, 5, 6, 7] (by decide +kernel)
set_option maxHeartbeats 4000000 in
set_option maxRecDepth 100000 in
theorem c_X8_refusalOf (l : Launch) (G : va_G) (cI cJ cD cH : ClassId) (sz : Nat) (h_p0 : Nat) (h_p0_ints : Nat) (p0_sort : Int32) (p0_tree : Int64) (p0_limit : Int32) (p0_above : Int64) (p0_size : Int32) (p1 : Int32) (r0 : Int32) (hF : F_X8_refusalOf p0_sort p1 = some r0) : Met l yX8_refusalOf wsX8_refusalOf ({ frames := 0, cells := 0, slots := 0, locals := 0 }) (k_pre G (k_T cI cJ cD cH) [(h_p0, .inr (2, [.int p0_sort, .long p0_tree, .int p0_limit, .ref h_p0_ints, .long p0_above, .int p0_size]))] sz [.ref h_p0, .int p1]) (va_Qi (fun r (_ : Unit) => r = r0 ∧ True) (fun _ t => va_P G vwCl [(h_p0, .inr (2, [.int p0_sort, .long p0_tree, .int p0_limit, .ref h_p0_ints, .long p0_above, .int p0_size]))] t.heap) (va_A [(h_p0, .inr (2, [.int p0_sort, .long p0_tree, .int p0_limit, .ref h_p0_ints, .long p0_above, .int p0_size]))] sz)) 0 0 (va_A [(h_p0, .inr (2, [.int p0_sort, .long p0_tree, .int p0_limit, .ref h_p0_ints, .long p0_above, .int p0_size]))] sz) := by
  refine Met.ofW (cc := cX8_refusalOf) (maxL := 2) (ret := (some .int)) (by decide) rfl ?_
  intro p e s m args below meth c s₁ B hml hv
  obtain ⟨rfl, hsz, hP, hK, hD0⟩ := hv
  have hx := B.exec
  have hb := B.bytes
  have hr := B.returns
  have hts := atoms_spec (ws := wsX8_refusalOf) B.pre
  have hown : s.vm.findClass RX8 = some m.cls := findClass_of_methodNamed B.named
  have hlocks := B.notSynchronized
  subst hsz
  have hD := hD0.self (sz := s.heap.size)
  generalize hAe : va_A [(h_p0, .inr (2, [.int p0_sort, .long p0_tree, .int p0_limit, .ref h_p0_ints, .long p0_above, .int p0_size]))] s.heap.size = A at hD ⊢
  have hA : ∀ q : Nat, s.heap.size ≤ q → A q := fun q h => by rw [← hAe]; exact Or.inr h
  have hS : va_S A s.heap s.heap [] := va_S.rf
  have hl := lv_entry ([.ref h_p0, .int p1]) (n := 2) (Nat.le_of_ble_eq_true rfl)
  rw [lg_entry_eq]
  generalize (lg_sl ([.ref h_p0, .int p1]) ++ List.replicate (2 - (lg_sl ([.ref h_p0, .int p1])).length) Slot.unset).toArray = ls at hl ⊢
  have hl : lv_has ls 2 [(0, .ref h_p0), (1, .int p1)] := hl
  have hinX2 : ∀ w ∈ wsX20, w ∈ wsX8_refusalOf := in_X8_refusalOf_X2
  have h := hF
  unfold F_X8_refusalOf at h
  refine lv_aload_n hx hb dX8_refusalOf_0 rfl (lv_at hl 0 rfl) ?_
  refine lv_ifnonnull (tgt := 6) hx hb dX8_refusalOf_1 (by decide) ?_
  refine lv_aload_n hx hb dX8_refusalOf_6 rfl (lv_at hl 0 rfl) ?_
  refine va_get (D := G) (ci := 2) (v := .int p0_sort) (C := RX2) (T := TX2) (N := 6) hx hb hts hinX2 hown hK hP 0 rfl rfl 0 (by decide) (hts (.fieldLink RX8 267 "MarkedCurves$Holder" "sort" "I") (List.mem_of_getElem? (i := 1) (by decide +kernel))) (fun _ h9 => h9) rfl dX8_refusalOf_7 ?_
  refine lv_if_ne (tgt := 16) hx hb dX8_refusalOf_10 (by decide) (fun c1 => ?_) (fun c1 => ?_)
  rotate_left
  · have h := it_p h c1
    refine lv_bipush (v := (-11 : Int32)) hx hb dX8_refusalOf_13 (by decide) ?_
    cases h
    exact k_iret hx hb hr hlocks hP hS rfl dX8_refusalOf_15
  have h := it_n h c1
  refine lv_aload_n hx hb dX8_refusalOf_16 rfl (lv_at hl 0 rfl) ?_
  refine va_get (D := G) (ci := 2) (v := .int p0_sort) (C := RX2) (T := TX2) (N := 6) hx hb hts hinX2 hown hK hP 0 rfl rfl 0 (by decide) (hts (.fieldLink RX8 267 "MarkedCurves$Holder" "sort" "I") (List.mem_of_getElem? (i := 1) (by decide +kernel))) (fun _ h9 => h9) rfl dX8_refusalOf_17 ?_
  refine lv_iload_n hx hb dX8_refusalOf_20 rfl (lv_at hl 1 rfl) ?_
  refine lv_icmp_ne (tgt := 28) hx hb dX8_refusalOf_21 (by decide) (fun c2 => ?_) (fun c2 => ?_)
  · have h := it_n h c2
    refine lv_bipush (v := (-12 : Int32)) hx hb dX8_refusalOf_28 (by decide) ?_
    cases h
    exact k_iret hx hb hr hlocks hP hS rfl dX8_refusalOf_30
  have h := it_p h c2
  refine lv_iconst (v := (0 : Int32)) hx hb dX8_refusalOf_24 (by decide) ?_
  refine lv_goto (tgt := 30) hx hb dX8_refusalOf_25 (by decide) ?_
  cases h
  exact k_iret hx hb hr hlocks hP hS rfl dX8_refusalOf_30

/-! X8_common -/
noncomputable def F_X8_common (t_holders_sort : Nat → Int32) (t_holders_tree : Nat → Int64) (t_holders_limit : Nat → Int32) (t_desk_limit : Int32) (t_desk_tree : Int64) (p0 : Int32) : Option (Int32) :=
  bd (F_X8_holderAt p0) (fun x1 => if x1 = 6 then (bd (F_X8_refusalOfN) (fun x6 => some x6)) else (bd (F_X8_refusalOf (t_holders_sort x1) (2 : Int32)) (fun x2 => if x2 = 0 then (if (t_holders_limit x1) = t_desk_limit then (bd (F_X6_sizeOf ((t_holders_tree x1) &&& t_desk_tree)) (fun x5 => some x5)) else (some (-5 : Int32))) else (some x2))))
theorem in_X8_common_X1 : ∀ w ∈ wsX10, w ∈ wsX8_common := mem_r _ [42, 43, 44, 45, 46] (by decide +kernel)
theorem in_X8_common_X2 : ∀ w ∈ wsX20, w ∈ wsX8_common := mem_r _ [27, 28, 29, 30, 31, 32] (by decide +kernel)
theorem in_X8_common_X8 : ∀ w ∈ wsX80, w ∈ wsX8_common := mem_r _ [33, 34, 35, 36, 37, 38, 39, 40, 41] (by decide +kernel)
set_option maxHeartbeats 40000000 in
set_option maxRecDepth 100000 in
theorem c_X8_common (l : Launch) (G : va_G) (cI cJ cD cH : ClassId) (sz : Nat) (h_t : Nat) (h_t_holders : Nat) (h_t_desk : Nat) (h_t_imageDesk : Nat) (h_t_deeds : Nat) (h_t_numbers : Nat) (h_t_tape : Nat) (h_t_reader : Nat) (h_t_speller : Nat) (h_t_desk_powers : Nat) (d_t_holders : Nat → Nat) (q_t_holders : Nat → Nat) (a_t_holders : Nat → Nat → Int32) (t_holders_sort : Nat → Int32) (t_holders_tree : Nat → Int64) (t_holders_limit : Nat → Int32) (t_holders_above : Nat → Int64) (t_holders_size : Nat → Int32) (t_imageKept : Int32) (t_desk_genus : Int32) (t_desk_size : Int32) (t_desk_limit : Int32) (t_desk_tree : Int64) (p0 : Int32) (r0 : Int32) (hF : F_X8_common t_holders_sort t_holders_tree t_holders_limit t_desk_limit t_desk_tree p0 = some r0) : Met l yX8_common wsX8_common ({ frames := 2, cells := 0, slots := 0, locals := 42 }) (k_pre G (k_T cI cJ cD cH) [(h_t, .inr (7, [.ref h_t_desk, .ref h_t_imageDesk, .ref h_t_deeds, .ref h_t_numbers, .ref h_t_tape, .ref h_t_reader, .ref h_t_speller, .ref h_t_holders, .int t_imageKept])), (h_t_holders, .inl (cH, 6, .inr (.inr (.inr (.inr (fun i => some (d_t_holders i))))))), ((d_t_holders 0), .inr (2, [.int (t_holders_sort 0), .long (t_holders_tree 0), .int (t_holders_limit 0), .ref (q_t_holders 0), .long (t_holders_above 0), .int (t_holders_size 0)])), ((q_t_holders 0), .inl (cI, 20, .inl (a_t_holders 0))), ((d_t_holders 1), .inr (2, [.int (t_holders_sort 1), .long (t_holders_tree 1), .int (t_holders_limit 1), .ref (q_t_holders 1), .long (t_holders_above 1), .int (t_holders_size 1)])), ((q_t_holders 1), .inl (cI, 20, .inl (a_t_holders 1))), ((d_t_holders 2), .inr (2, [.int (t_holders_sort 2), .long (t_holders_tree 2), .int (t_holders_limit 2), .ref (q_t_holders 2), .long (t_holders_above 2), .int (t_holders_size 2)])), ((q_t_holders 2), .inl (cI, 20, .inl (a_t_holders 2))), ((d_t_holders 3), .inr (2, [.int (t_holders_sort 3), .long (t_holders_tree 3), .int (t_holders_limit 3), .ref (q_t_holders 3), .long (t_holders_above 3), .int (t_holders_size 3)])), ((q_t_holders 3), .inl (cI, 20, .inl (a_t_holders 3))), ((d_t_holders 4), .inr (2, [.int (t_holders_sort 4), .long (t_holders_tree 4), .int (t_holders_limit 4), .ref (q_t_holders 4), .long (t_holders_above 4), .int (t_holders_size 4)])), ((q_t_holders 4), .inl (cI, 20, .inl (a_t_holders 4))), ((d_t_holders 5), .inr (2, [.int (t_holders_sort 5), .long (t_holders_tree 5), .int (t_holders_limit 5), .ref (q_t_holders 5), .long (t_holders_above 5), .int (t_holders_size 5)])), ((q_t_holders 5), .inl (cI, 20, .inl (a_t_holders 5))), (h_t_desk, .inr (1, [.int t_desk_genus, .int t_desk_size, .ref h_t_desk_powers, .int t_desk_limit, .long t_desk_tree]))] sz [.ref h_t, .int p0]) (va_Qi (fun r (_ : Unit) => r = r0 ∧ True) (fun _ t => va_P G vwCl [(h_t, .inr (7, [.ref h_t_desk, .ref h_t_imageDesk, .ref h_t_deeds, .ref h_t_numbers, .ref h_t_tape, .ref h_t_reader, .ref h_t_speller, .ref h_t_holders, .int t_imageKept])), (h_t_holders, .inl (cH, 6, .inr (.inr (.inr (.inr (fun i => some (d_t_holders i))))))), ((d_t_holders 0), .inr (2, [.int (t_holders_sort 0), .long (t_holders_tree 0), .int (t_holders_limit 0), .ref (q_t_holders 0), .long (t_holders_above 0), .int (t_holders_size 0)])), ((q_t_holders 0), .inl (cI, 20, .inl (a_t_holders 0))), ((d_t_holders 1), .inr (2, [.int (t_holders_sort 1), .long (t_holders_tree 1), .int (t_holders_limit 1), .ref (q_t_holders 1), .long (t_holders_above 1), .int (t_holders_size 1)])), ((q_t_holders 1), .inl (cI, 20, .inl (a_t_holders 1))), ((d_t_holders 2), .inr (2, [.int (t_holders_sort 2), .long (t_holders_tree 2), .int (t_holders_limit 2), .ref (q_t_holders 2), .long (t_holders_above 2), .int (t_holders_size 2)])), ((q_t_holders 2), .inl (cI, 20, .inl (a_t_holders 2))), ((d_t_holders 3), .inr (2, [.int (t_holders_sort 3), .long (t_holders_tree 3), .int (t_holders_limit 3), .ref (q_t_holders 3), .long (t_holders_above 3), .int (t_holders_size 3)])), ((q_t_holders 3), .inl (cI, 20, .inl (a_t_holders 3))), ((d_t_holders 4), .inr (2, [.int (t_holders_sort 4), .long (t_holders_tree 4), .int (t_holders_limit 4), .ref (q_t_holders 4), .long (t_holders_above 4), .int (t_holders_size 4)])), ((q_t_holders 4), .inl (cI, 20, .inl (a_t_holders 4))), ((d_t_holders 5), .inr (2, [.int (t_holders_sort 5), .long (t_holders_tree 5), .int (t_holders_limit 5), .ref (q_t_holders 5), .long (t_holders_above 5), .int (t_holders_size 5)])), ((q_t_holders 5), .inl (cI, 20, .inl (a_t_holders 5))), (h_t_desk, .inr (1, [.int t_desk_genus, .int t_desk_size, .ref h_t_desk_powers, .int t_desk_limit, .long t_desk_tree]))] t.heap) (va_A [(h_t, .inr (7, [.ref h_t_desk, .ref h_t_imageDesk, .ref h_t_deeds, .ref h_t_numbers, .ref h_t_tape, .ref h_t_reader, .ref h_t_speller, .ref h_t_holders, .int t_imageKept])), (h_t_holders, .inl (cH, 6, .inr (.inr (.inr (.inr (fun i => some (d_t_holders i))))))), ((d_t_holders 0), .inr (2, [.int (t_holders_sort 0), .long (t_holders_tree 0), .int (t_holders_limit 0), .ref (q_t_holders 0), .long (t_holders_above 0), .int (t_holders_size 0)])), ((q_t_holders 0), .inl (cI, 20, .inl (a_t_holders 0))), ((d_t_holders 1), .inr (2, [.int (t_holders_sort 1), .long (t_holders_tree 1), .int (t_holders_limit 1), .ref (q_t_holders 1), .long (t_holders_above 1), .int (t_holders_size 1)])), ((q_t_holders 1), .inl (cI, 20, .inl (a_t_holders 1))), ((d_t_holders 2), .inr (2, [.int (t_holders_sort 2), .long (t_holders_tree 2), .int (t_holders_limit 2), .ref (q_t_holders 2), .long (t_holders_above 2), .int (t_holders_size 2)])), ((q_t_holders 2), .inl (cI, 20, .inl (a_t_holders 2))), ((d_t_holders 3), .inr (2, [.int (t_holders_sort 3), .long (t_holders_tree 3), .int (t_holders_limit 3), .ref (q_t_holders 3), .long (t_holders_above 3), .int (t_holders_size 3)])), ((q_t_holders 3), .inl (cI, 20, .inl (a_t_holders 3))), ((d_t_holders 4), .inr (2, [.int (t_holders_sort 4), .long (t_holders_tree 4), .int (t_holders_limit 4), .ref (q_t_holders 4), .long (t_holders_above 4), .int (t_holders_size 4)])), ((q_t_holders 4), .inl (cI, 20, .inl (a_t_holders 4))), ((d_t_holders 5), .inr (2, [.int (t_holders_sort 5), .long (t_holders_tree 5), .int (t_holders_limit 5), .ref (q_t_holders 5), .long (t_holders_above 5), .int (t_holders_size 5)])), ((q_t_holders 5), .inl (cI, 20, .inl (a_t_holders 5))), (h_t_desk, .inr (1, [.int t_desk_genus, .int t_desk_size, .ref h_t_desk_powers, .int t_desk_limit, .long t_desk_tree]))] sz)) 0 0 (va_A [(h_t, .inr (7, [.ref h_t_desk, .ref h_t_imageDesk, .ref h_t_deeds, .ref h_t_numbers, .ref h_t_tape, .ref h_t_reader, .ref h_t_speller, .ref h_t_holders, .int t_imageKept])), (h_t_holders, .inl (cH, 6, .inr (.inr (.inr (.inr (fun i => some (d_t_holders i))))))), ((d_t_holders 0), .inr (2, [.int (t_holders_sort 0), .long (t_holders_tree 0), .int (t_holders_limit 0), .ref (q_t_holders 0), .long (t_holders_above 0), .int (t_holders_size 0)])), ((q_t_holders 0), .inl (cI, 20, .inl (a_t_holders 0))), ((d_t_holders 1), .inr (2, [.int (t_holders_sort 1), .long (t_holders_tree 1), .int (t_holders_limit 1), .ref (q_t_holders 1), .long (t_holders_above 1), .int (t_holders_size 1)])), ((q_t_holders 1), .inl (cI, 20, .inl (a_t_holders 1))), ((d_t_holders 2), .inr (2, [.int (t_holders_sort 2), .long (t_holders_tree 2), .int (t_holders_limit 2), .ref (q_t_holders 2), .long (t_holders_above 2), .int (t_holders_size 2)])), ((q_t_holders 2), .inl (cI, 20, .inl (a_t_holders 2))), ((d_t_holders 3), .inr (2, [.int (t_holders_sort 3), .long (t_holders_tree 3), .int (t_holders_limit 3), .ref (q_t_holders 3), .long (t_holders_above 3), .int (t_holders_size 3)])), ((q_t_holders 3), .inl (cI, 20, .inl (a_t_holders 3))), ((d_t_holders 4), .inr (2, [.int (t_holders_sort 4), .long (t_holders_tree 4), .int (t_holders_limit 4), .ref (q_t_holders 4), .long (t_holders_above 4), .int (t_holders_size 4)])), ((q_t_holders 4), .inl (cI, 20, .inl (a_t_holders 4))), ((d_t_holders 5), .inr (2, [.int (t_holders_sort 5), .long (t_holders_tree 5), .int (t_holders_limit 5), .ref (q_t_holders 5), .long (t_holders_above 5), .int (t_holders_size 5)])), ((q_t_holders 5), .inl (cI, 20, .inl (a_t_holders 5))), (h_t_desk, .inr (1, [.int t_desk_genus, .int t_desk_size, .ref h_t_desk_powers, .int t_desk_limit, .long t_desk_tree]))] sz) := by
  refine Met.ofW (cc := cX8_common) (maxL := 4) (ret := (some .int)) (by decide) rfl ?_
  intro p e s m args below meth c s₁ B hml hv
  obtain ⟨rfl, hsz, hP, hK, hD0⟩ := hv
  have hx := B.exec
  have hb := B.bytes
  have hr := B.returns
  have hts := atoms_spec (ws := wsX8_common) B.pre
  have hown : s.vm.findClass RX8 = some m.cls := findClass_of_methodNamed B.named
  have hlocks := B.notSynchronized
  subst hsz
  have hD := hD0.self (sz := s.heap.size)
  generalize hAe : va_A [(h_t, .inr (7, [.ref h_t_desk, .ref h_t_imageDesk, .ref h_t_deeds, .ref h_t_numbers, .ref h_t_tape, .ref h_t_reader, .ref h_t_speller, .ref h_t_holders, .int t_imageKept])), (h_t_holders, .inl (cH, 6, .inr (.inr (.inr (.inr (fun i => some (d_t_holders i))))))), ((d_t_holders 0), .inr (2, [.int (t_holders_sort 0), .long (t_holders_tree 0), .int (t_holders_limit 0), .ref (q_t_holders 0), .long (t_holders_above 0), .int (t_holders_size 0)])), ((q_t_holders 0), .inl (cI, 20, .inl (a_t_holders 0))), ((d_t_holders 1), .inr (2, [.int (t_holders_sort 1), .long (t_holders_tree 1), .int (t_holders_limit 1), .ref (q_t_holders 1), .long (t_holders_above 1), .int (t_holders_size 1)])), ((q_t_holders 1), .inl (cI, 20, .inl (a_t_holders 1))), ((d_t_holders 2), .inr (2, [.int (t_holders_sort 2), .long (t_holders_tree 2), .int (t_holders_limit 2), .ref (q_t_holders 2), .long (t_holders_above 2), .int (t_holders_size 2)])), ((q_t_holders 2), .inl (cI, 20, .inl (a_t_holders 2))), ((d_t_holders 3), .inr (2, [.int (t_holders_sort 3), .long (t_holders_tree 3), .int (t_holders_limit 3), .ref (q_t_holders 3), .long (t_holders_above 3), .int (t_holders_size 3)])), ((q_t_holders 3), .inl (cI, 20, .inl (a_t_holders 3))), ((d_t_holders 4), .inr (2, [.int (t_holders_sort 4), .long (t_holders_tree 4), .int (t_holders_limit 4), .ref (q_t_holders 4), .long (t_holders_above 4), .int (t_holders_size 4)])), ((q_t_holders 4), .inl (cI, 20, .inl (a_t_holders 4))), ((d_t_holders 5), .inr (2, [.int (t_holders_sort 5), .long (t_holders_tree 5), .int (t_holders_limit 5), .ref (q_t_holders 5), .long (t_holders_above 5), .int (t_holders_size 5)])), ((q_t_holders 5), .inl (cI, 20, .inl (a_t_holders 5))), (h_t_desk, .inr (1, [.int t_desk_genus, .int t_desk_size, .ref h_t_desk_powers, .int t_desk_limit, .long t_desk_tree]))] s.heap.size = A at hD ⊢
  have hA : ∀ q : Nat, s.heap.size ≤ q → A q := fun q h => by rw [← hAe]; exact Or.inr h
  have hS : va_S A s.heap s.heap [] := va_S.rf
  have hl := lv_entry ([.ref h_t, .int p0]) (n := 4) (Nat.le_of_ble_eq_true rfl)
  rw [lg_entry_eq]
  generalize (lg_sl ([.ref h_t, .int p0]) ++ List.replicate (4 - (lg_sl ([.ref h_t, .int p0])).length) Slot.unset).toArray = ls at hl ⊢
  have hl : lv_has ls 4 [(0, .ref h_t), (1, .int p0)] := hl
  have hinX1 : ∀ w ∈ wsX10, w ∈ wsX8_common := in_X8_common_X1
  have hinX2 : ∀ w ∈ wsX20, w ∈ wsX8_common := in_X8_common_X2
  have hinX8 : ∀ w ∈ wsX80, w ∈ wsX8_common := in_X8_common_X8
  have h := hF
  unfold F_X8_common at h
  refine lv_aload_n hx hb dX8_common_0 rfl (lv_at hl 0 rfl) ?_
  refine lv_iload_n hx hb dX8_common_1 rfl (lv_at hl 1 rfl) ?_
  obtain ⟨x1, hx1, h⟩ := bd_e h
  try dsimp only at h
  have hb1 := k_lt_X8_holderAt hx1
  obtain rfl | rfl | rfl | rfl | rfl | rfl | rfl := k_lt7 hb1
  · refine k_VqU (n := 1) (As := [.int p0]) (rest := []) hx hb hml hown hts (c_X8_holderAt l G cI cJ cD cH s.heap.size h_t h_t_holders h_t_desk h_t_imageDesk h_t_deeds h_t_numbers h_t_tape h_t_reader h_t_speller d_t_holders q_t_holders a_t_holders t_holders_sort t_holders_tree t_holders_limit t_holders_above t_holders_size t_imageKept p0 0 hx1) gX8_common_X8_holderAt rfl rfl rfl (by decide +kernel) ⟨by first | exact Nat.le_of_ble_eq_true rfl | (simp only [headSpec]; omega), by first | exact Nat.le_of_ble_eq_true rfl | (simp only [headSpec]; omega)⟩ hK hP hD hS hA [0, 1, 2, 3, 4, 5, 6, 7, 8, 9, 10, 11, 12, 13] (by decide) rfl (ci := 7) rfl rfl rfl rfl rfl hl.1 (Nat.le_of_ble_eq_true rfl) dX8_common_2 ⟨Nat.zero_le _, Nat.zero_le _⟩ (fun hp1 H locs hP hS => ?_)
    refine W.eq (g2 := F0 m 5 ls [.ref (d_t_holders 0)]) rfl ?_
    have h := it_n h (by decide)
    refine lv_astore_n (lv' := [(2, .ref (d_t_holders 0)), (0, .ref h_t), (1, .int p0)]) hx hb dX8_common_5 rfl hl (by decide) rfl (fun ls hl => ?_)
    refine lv_aload_n hx hb dX8_common_6 rfl (lv_at hl 0 rfl) ?_
    refine lv_iconst (v := (2 : Int32)) hx hb dX8_common_7 (by decide) ?_
    obtain ⟨x2, hx2, h⟩ := bd_e h
    try dsimp only at h
    refine k_SiU (n := 2) (As := [.ref (d_t_holders 0), .int (2 : Int32)]) (rest := []) hx hb hml hown hts (c_X8_refusalOf l G cI cJ cD cH H.size (d_t_holders 0) (q_t_holders 0) (t_holders_sort 0) (t_holders_tree 0) (t_holders_limit 0) (t_holders_above 0) (t_holders_size 0) (2 : Int32) x2 hx2) gX8_common_X8_refusalOf rfl rfl rfl (by decide +kernel) ⟨by first | exact Nat.le_of_ble_eq_true rfl | (simp only [headSpec]; omega), by first | exact Nat.le_of_ble_eq_true rfl | (simp only [headSpec]; omega)⟩ hK hP hD hS hA [2] (by decide) rfl rfl rfl hl.1 (Nat.le_of_ble_eq_true rfl) dX8_common_8 ⟨Nat.zero_le _, Nat.zero_le _⟩ (fun hp2 H locs hP hS => ?_)
    refine lv_istore_n (lv' := [(3, .int x2), (2, .ref (d_t_holders 0)), (0, .ref h_t), (1, .int p0)]) hx hb dX8_common_11 rfl hl (by decide) rfl (fun ls hl => ?_)
    refine lv_aload_n hx hb dX8_common_12 rfl (lv_at hl 1 rfl) ?_
    refine lv_ifnull hx hb dX8_common_13 ?_
    refine lv_iload_n hx hb dX8_common_16 rfl (lv_at hl 0 rfl) ?_
    refine lv_if_eq (tgt := 22) hx hb dX8_common_17 (by decide) (fun c3 => ?_) (fun c3 => ?_)
    rotate_left
    · have h := it_n h c3
      refine lv_iload_n hx hb dX8_common_20 rfl (lv_at hl 0 rfl) ?_
      cases h
      exact k_iret hx hb hr hlocks hP hS rfl dX8_common_21
    have h := it_p h c3
    refine lv_aload_n hx hb dX8_common_22 rfl (lv_at hl 1 rfl) ?_
    refine va_get (D := G) (ci := 2) (v := .int (t_holders_limit 0)) (C := RX2) (T := TX2) (N := 6) hx hb hts hinX2 hown hK hP 2 rfl rfl 2 (by decide) (hts (.fieldLink RX8 280 "MarkedCurves$Holder" "limit" "I") (List.mem_of_getElem? (i := 1) (by decide +kernel))) (fun _ h9 => h9) rfl dX8_common_23 ?_
    refine lv_aload_n hx hb dX8_common_26 rfl (lv_at hl 2 rfl) ?_
    refine va_get (D := G) (ci := 7) (v := .ref h_t_desk) (C := RX8) (T := TX8) (N := 9) hx hb hts hinX8 hown hK hP 0 rfl rfl 0 (by decide) (hts (.fieldLink RX8 12 "MarkedCurves" "desk" "LMarkedCurves$Desk;") (List.mem_of_getElem? (i := 2) (by decide +kernel))) (fun _ h9 => h9) rfl dX8_common_27 ?_
    refine va_get (D := G) (ci := 1) (v := .int t_desk_limit) (C := RX1) (T := TX1) (N := 5) hx hb hts hinX1 hown hK hP 14 rfl rfl 3 (by decide) (hts (.fieldLink RX8 153 "MarkedCurves$Desk" "limit" "I") (List.mem_of_getElem? (i := 3) (by decide +kernel))) (fun _ h9 => h9) rfl dX8_common_30 ?_
    refine lv_icmp_eq (tgt := 39) hx hb dX8_common_33 (by decide) (fun c4 => ?_) (fun c4 => ?_)
    rotate_left
    · have h := it_n h c4
      refine lv_bipush (v := (-5 : Int32)) hx hb dX8_common_36 (by decide) ?_
      cases h
      exact k_iret hx hb hr hlocks hP hS rfl dX8_common_38
    have h := it_p h c4
    refine lv_aload_n hx hb dX8_common_39 rfl (lv_at hl 1 rfl) ?_
    refine va_get (D := G) (ci := 2) (v := .long (t_holders_tree 0)) (C := RX2) (T := TX2) (N := 6) hx hb hts hinX2 hown hK hP 2 rfl rfl 1 (by decide) (hts (.fieldLink RX8 281 "MarkedCurves$Holder" "tree" "J") (List.mem_of_getElem? (i := 4) (by decide +kernel))) (fun _ h9 => h9) rfl dX8_common_40 ?_
    refine lv_aload_n hx hb dX8_common_43 rfl (lv_at hl 2 rfl) ?_
    refine va_get (D := G) (ci := 7) (v := .ref h_t_desk) (C := RX8) (T := TX8) (N := 9) hx hb hts hinX8 hown hK hP 0 rfl rfl 0 (by decide) (hts (.fieldLink RX8 12 "MarkedCurves" "desk" "LMarkedCurves$Desk;") (List.mem_of_getElem? (i := 2) (by decide +kernel))) (fun _ h9 => h9) rfl dX8_common_44 ?_
    refine va_get (D := G) (ci := 1) (v := .long t_desk_tree) (C := RX1) (T := TX1) (N := 5) hx hb hts hinX1 hown hK hP 14 rfl rfl 4 (by decide) (hts (.fieldLink RX8 156 "MarkedCurves$Desk" "tree" "J") (List.mem_of_getElem? (i := 5) (by decide +kernel))) (fun _ h9 => h9) rfl dX8_common_47 ?_
    refine lv_land hx hb dX8_common_50 ?_
    obtain ⟨x5, hx5, h⟩ := bd_e h
    try dsimp only at h
    refine k_SiU (n := 1) (As := [.long ((t_holders_tree 0) &&& t_desk_tree)]) (rest := []) hx hb hml hown hts (c_X6_sizeOf l G cI cJ cD cH H.size ((t_holders_tree 0) &&& t_desk_tree) x5 hx5) gX8_common_X6_sizeOf rfl rfl rfl (by decide +kernel) ⟨by first | exact Nat.le_of_ble_eq_true rfl | (simp only [headSpec]; omega), by first | exact Nat.le_of_ble_eq_true rfl | (simp only [headSpec]; omega)⟩ hK hP hD hS hA [] (by decide) rfl rfl rfl hl.1 (Nat.le_of_ble_eq_true rfl) dX8_common_51 ⟨Nat.zero_le _, Nat.zero_le _⟩ (fun hp5 H locs hP hS => ?_)
    cases h
    exact k_iret hx hb hr hlocks hP hS rfl dX8_common_54
  · refine k_VqU (n := 1) (As := [.int p0]) (rest := []) hx hb hml hown hts (c_X8_holderAt l G cI cJ cD cH s.heap.size h_t h_t_holders h_t_desk h_t_imageDesk h_t_deeds h_t_numbers h_t_tape h_t_reader h_t_speller d_t_holders q_t_holders a_t_holders t_holders_sort t_holders_tree t_holders_limit t_holders_above t_holders_size t_imageKept p0 1 hx1) gX8_common_X8_holderAt rfl rfl rfl (by decide +kernel) ⟨by first | exact Nat.le_of_ble_eq_true rfl | (simp only [headSpec]; omega), by first | exact Nat.le_of_ble_eq_true rfl | (simp only [headSpec]; omega)⟩ hK hP hD hS hA [0, 1, 2, 3, 4, 5, 6, 7, 8, 9, 10, 11, 12, 13] (by decide) rfl (ci := 7) rfl rfl rfl rfl rfl hl.1 (Nat.le_of_ble_eq_true rfl) dX8_common_2 ⟨Nat.zero_le _, Nat.zero_le _⟩ (fun hp1 H locs hP hS => ?_)
    refine W.eq (g2 := F0 m 5 ls [.ref (d_t_holders 1)]) rfl ?_
    have h := it_n h (by decide)
    refine lv_astore_n (lv' := [(2, .ref (d_t_holders 1)), (0, .ref h_t), (1, .int p0)]) hx hb dX8_common_5 rfl hl (by decide) rfl (fun ls hl => ?_)
    refine lv_aload_n hx hb dX8_common_6 rfl (lv_at hl 0 rfl) ?_
    refine lv_iconst (v := (2 : Int32)) hx hb dX8_common_7 (by decide) ?_
    obtain ⟨x2, hx2, h⟩ := bd_e h
    try dsimp only at h
    refine k_SiU (n := 2) (As := [.ref (d_t_holders 1), .int (2 : Int32)]) (rest := []) hx hb hml hown hts (c_X8_refusalOf l G cI cJ cD cH H.size (d_t_holders 1) (q_t_holders 1) (t_holders_sort 1) (t_holders_tree 1) (t_holders_limit 1) (t_holders_above 1) (t_holders_size 1) (2 : Int32) x2 hx2) gX8_common_X8_refusalOf rfl rfl rfl (by decide +kernel) ⟨by first | exact Nat.le_of_ble_eq_true rfl | (simp only [headSpec]; omega), by first | exact Nat.le_of_ble_eq_true rfl | (simp only [headSpec]; omega)⟩ hK hP hD hS hA [4] (by decide) rfl rfl rfl hl.1 (Nat.le_of_ble_eq_true rfl) dX8_common_8 ⟨Nat.zero_le _, Nat.zero_le _⟩ (fun hp2 H locs hP hS => ?_)
    refine lv_istore_n (lv' := [(3, .int x2), (2, .ref (d_t_holders 1)), (0, .ref h_t), (1, .int p0)]) hx hb dX8_common_11 rfl hl (by decide) rfl (fun ls hl => ?_)
    refine lv_aload_n hx hb dX8_common_12 rfl (lv_at hl 1 rfl) ?_
    refine lv_ifnull hx hb dX8_common_13 ?_
    refine lv_iload_n hx hb dX8_common_16 rfl (lv_at hl 0 rfl) ?_
    refine lv_if_eq (tgt := 22) hx hb dX8_common_17 (by decide) (fun c3 => ?_) (fun c3 => ?_)
    rotate_left
    · have h := it_n h c3
      refine lv_iload_n hx hb dX8_common_20 rfl (lv_at hl 0 rfl) ?_
      cases h
      exact k_iret hx hb hr hlocks hP hS rfl dX8_common_21
    have h := it_p h c3
    refine lv_aload_n hx hb dX8_common_22 rfl (lv_at hl 1 rfl) ?_
    refine va_get (D := G) (ci := 2) (v := .int (t_holders_limit 1)) (C := RX2) (T := TX2) (N := 6) hx hb hts hinX2 hown hK hP 4 rfl rfl 2 (by decide) (hts (.fieldLink RX8 280 "MarkedCurves$Holder" "limit" "I") (List.mem_of_getElem? (i := 1) (by decide +kernel))) (fun _ h9 => h9) rfl dX8_common_23 ?_
    refine lv_aload_n hx hb dX8_common_26 rfl (lv_at hl 2 rfl) ?_
    refine va_get (D := G) (ci := 7) (v := .ref h_t_desk) (C := RX8) (T := TX8) (N := 9) hx hb hts hinX8 hown hK hP 0 rfl rfl 0 (by decide) (hts (.fieldLink RX8 12 "MarkedCurves" "desk" "LMarkedCurves$Desk;") (List.mem_of_getElem? (i := 2) (by decide +kernel))) (fun _ h9 => h9) rfl dX8_common_27 ?_
    refine va_get (D := G) (ci := 1) (v := .int t_desk_limit) (C := RX1) (T := TX1) (N := 5) hx hb hts hinX1 hown hK hP 14 rfl rfl 3 (by decide) (hts (.fieldLink RX8 153 "MarkedCurves$Desk" "limit" "I") (List.mem_of_getElem? (i := 3) (by decide +kernel))) (fun _ h9 => h9) rfl dX8_common_30 ?_
    refine lv_icmp_eq (tgt := 39) hx hb dX8_common_33 (by decide) (fun c4 => ?_) (fun c4 => ?_)
    rotate_left
    · have h := it_n h c4
      refine lv_bipush (v := (-5 : Int32)) hx hb dX8_common_36 (by decide) ?_
      cases h
      exact k_iret hx hb hr hlocks hP hS rfl dX8_common_38
    have h := it_p h c4
    refine lv_aload_n hx hb dX8_common_39 rfl (lv_at hl 1 rfl) ?_
    refine va_get (D := G) (ci := 2) (v := .long (t_holders_tree 1)) (C := RX2) (T := TX2) (N := 6) hx hb hts hinX2 hown hK hP 4 rfl rfl 1 (by decide) (hts (.fieldLink RX8 281 "MarkedCurves$Holder" "tree" "J") (List.mem_of_getElem? (i := 4) (by decide +kernel))) (fun _ h9 => h9) rfl dX8_common_40 ?_
    refine lv_aload_n hx hb dX8_common_43 rfl (lv_at hl 2 rfl) ?_
    refine va_get (D := G) (ci := 7) (v := .ref h_t_desk) (C := RX8) (T := TX8) (N := 9) hx hb hts hinX8 hown hK hP 0 rfl rfl 0 (by decide) (hts (.fieldLink RX8 12 "MarkedCurves" "desk" "LMarkedCurves$Desk;") (List.mem_of_getElem? (i := 2) (by decide +kernel))) (fun _ h9 => h9) rfl dX8_common_44 ?_
    refine va_get (D := G) (ci := 1) (v := .long t_desk_tree) (C := RX1) (T := TX1) (N := 5) hx hb hts hinX1 hown hK hP 14 rfl rfl 4 (by decide) (hts (.fieldLink RX8 156 "MarkedCurves$Desk" "tree" "J") (List.mem_of_getElem? (i := 5) (by decide +kernel))) (fun _ h9 => h9) rfl dX8_common_47 ?_
    refine lv_land hx hb dX8_common_50 ?_
    obtain ⟨x5, hx5, h⟩ := bd_e h
    try dsimp only at h
    refine k_SiU (n := 1) (As := [.long ((t_holders_tree 1) &&& t_desk_tree)]) (rest := []) hx hb hml hown hts (c_X6_sizeOf l G cI cJ cD cH H.size ((t_holders_tree 1) &&& t_desk_tree) x5 hx5) gX8_common_X6_sizeOf rfl rfl rfl (by decide +kernel) ⟨by first | exact Nat.le_of_ble_eq_true rfl | (simp only [headSpec]; omega), by first | exact Nat.le_of_ble_eq_true rfl | (simp only [headSpec]; omega)⟩ hK hP hD hS hA [] (by decide) rfl rfl rfl hl.1 (Nat.le_of_ble_eq_true rfl) dX8_common_51 ⟨Nat.zero_le _, Nat.zero_le _⟩ (fun hp5 H locs hP hS => ?_)
    cases h
    exact k_iret hx hb hr hlocks hP hS rfl dX8_common_54
  · refine k_VqU (n := 1) (As := [.int p0]) (rest := []) hx hb hml hown hts (c_X8_holderAt l G cI cJ cD cH s.heap.size h_t h_t_holders h_t_desk h_t_imageDesk h_t_deeds h_t_numbers h_t_tape h_t_reader h_t_speller d_t_holders q_t_holders a_t_holders t_holders_sort t_holders_tree t_holders_limit t_holders_above t_holders_size t_imageKept p0 2 hx1) gX8_common_X8_holderAt rfl rfl rfl (by decide +kernel) ⟨by first | exact Nat.le_of_ble_eq_true rfl | (simp only [headSpec]; omega), by first | exact Nat.le_of_ble_eq_true rfl | (simp only [headSpec]; omega)⟩ hK hP hD hS hA [0, 1, 2, 3, 4, 5, 6, 7, 8, 9, 10, 11, 12, 13] (by decide) rfl (ci := 7) rfl rfl rfl rfl rfl hl.1 (Nat.le_of_ble_eq_true rfl) dX8_common_2 ⟨Nat.zero_le _, Nat.zero_le _⟩ (fun hp1 H locs hP hS => ?_)
    refine W.eq (g2 := F0 m 5 ls [.ref (d_t_holders 2)]) rfl ?_
    have h := it_n h (by decide)
    refine lv_astore_n (lv' := [(2, .ref (d_t_holders 2)), (0, .ref h_t), (1, .int p0)]) hx hb dX8_common_5 rfl hl (by decide) rfl (fun ls hl => ?_)
    refine lv_aload_n hx hb dX8_common_6 rfl (lv_at hl 0 rfl) ?_
    refine lv_iconst (v := (2 : Int32)) hx hb dX8_common_7 (by decide) ?_
    obtain ⟨x2, hx2, h⟩ := bd_e h
    try dsimp only at h
    refine k_SiU (n := 2) (As := [.ref (d_t_holders 2), .int (2 : Int32)]) (rest := []) hx hb hml hown hts (c_X8_refusalOf l G cI cJ cD cH H.size (d_t_holders 2) (q_t_holders 2) (t_holders_sort 2) (t_holders_tree 2) (t_holders_limit 2) (t_holders_above 2) (t_holders_size 2) (2 : Int32) x2 hx2) gX8_common_X8_refusalOf rfl rfl rfl (by decide +kernel) ⟨by first | exact Nat.le_of_ble_eq_true rfl | (simp only [headSpec]; omega), by first | exact Nat.le_of_ble_eq_true rfl | (simp only [headSpec]; omega)⟩ hK hP hD hS hA [6] (by decide) rfl rfl rfl hl.1 (Nat.le_of_ble_eq_true rfl) dX8_common_8 ⟨Nat.zero_le _, Nat.zero_le _⟩ (fun hp2 H locs hP hS => ?_)
    refine lv_istore_n (lv' := [(3, .int x2), (2, .ref (d_t_holders 2)), (0, .ref h_t), (1, .int p0)]) hx hb dX8_common_11 rfl hl (by decide) rfl (fun ls hl => ?_)
    refine lv_aload_n hx hb dX8_common_12 rfl (lv_at hl 1 rfl) ?_
    refine lv_ifnull hx hb dX8_common_13 ?_
    refine lv_iload_n hx hb dX8_common_16 rfl (lv_at hl 0 rfl) ?_
    refine lv_if_eq (tgt := 22) hx hb dX8_common_17 (by decide) (fun c3 => ?_) (fun c3 => ?_)
    rotate_left
    · have h := it_n h c3
      refine lv_iload_n hx hb dX8_common_20 rfl (lv_at hl 0 rfl) ?_
      cases h
      exact k_iret hx hb hr hlocks hP hS rfl dX8_common_21
    have h := it_p h c3
    refine lv_aload_n hx hb dX8_common_22 rfl (lv_at hl 1 rfl) ?_
    refine va_get (D := G) (ci := 2) (v := .int (t_holders_limit 2)) (C := RX2) (T := TX2) (N := 6) hx hb hts hinX2 hown hK hP 6 rfl rfl 2 (by decide) (hts (.fieldLink RX8 280 "MarkedCurves$Holder" "limit" "I") (List.mem_of_getElem? (i := 1) (by decide +kernel))) (fun _ h9 => h9) rfl dX8_common_23 ?_
    refine lv_aload_n hx hb dX8_common_26 rfl (lv_at hl 2 rfl) ?_
    refine va_get (D := G) (ci := 7) (v := .ref h_t_desk) (C := RX8) (T := TX8) (N := 9) hx hb hts hinX8 hown hK hP 0 rfl rfl 0 (by decide) (hts (.fieldLink RX8 12 "MarkedCurves" "desk" "LMarkedCurves$Desk;") (List.mem_of_getElem? (i := 2) (by decide +kernel))) (fun _ h9 => h9) rfl dX8_common_27 ?_
    refine va_get (D := G) (ci := 1) (v := .int t_desk_limit) (C := RX1) (T := TX1) (N := 5) hx hb hts hinX1 hown hK hP 14 rfl rfl 3 (by decide) (hts (.fieldLink RX8 153 "MarkedCurves$Desk" "limit" "I") (List.mem_of_getElem? (i := 3) (by decide +kernel))) (fun _ h9 => h9) rfl dX8_common_30 ?_
    refine lv_icmp_eq (tgt := 39) hx hb dX8_common_33 (by decide) (fun c4 => ?_) (fun c4 => ?_)
    rotate_left
    · have h := it_n h c4
      refine lv_bipush (v := (-5 : Int32)) hx hb dX8_common_36 (by decide) ?_
      cases h
      exact k_iret hx hb hr hlocks hP hS rfl dX8_common_38
    have h := it_p h c4
    refine lv_aload_n hx hb dX8_common_39 rfl (lv_at hl 1 rfl) ?_
    refine va_get (D := G) (ci := 2) (v := .long (t_holders_tree 2)) (C := RX2) (T := TX2) (N := 6) hx hb hts hinX2 hown hK hP 6 rfl rfl 1 (by decide) (hts (.fieldLink RX8 281 "MarkedCurves$Holder" "tree" "J") (List.mem_of_getElem? (i := 4) (by decide +kernel))) (fun _ h9 => h9) rfl dX8_common_40 ?_
    refine lv_aload_n hx hb dX8_common_43 rfl (lv_at hl 2 rfl) ?_
    refine va_get (D := G) (ci := 7) (v := .ref h_t_desk) (C := RX8) (T := TX8) (N := 9) hx hb hts hinX8 hown hK hP 0 rfl rfl 0 (by decide) (hts (.fieldLink RX8 12 "MarkedCurves" "desk" "LMarkedCurves$Desk;") (List.mem_of_getElem? (i := 2) (by decide +kernel))) (fun _ h9 => h9) rfl dX8_common_44 ?_
    refine va_get (D := G) (ci := 1) (v := .long t_desk_tree) (C := RX1) (T := TX1) (N := 5) hx hb hts hinX1 hown hK hP 14 rfl rfl 4 (by decide) (hts (.fieldLink RX8 156 "MarkedCurves$Desk" "tree" "J") (List.mem_of_getElem? (i := 5) (by decide +kernel))) (fun _ h9 => h9) rfl dX8_common_47 ?_
    refine lv_land hx hb dX8_common_50 ?_
    obtain ⟨x5, hx5, h⟩ := bd_e h
    try dsimp only at h
    refine k_SiU (n := 1) (As := [.long ((t_holders_tree 2) &&& t_desk_tree)]) (rest := []) hx hb hml hown hts (c_X6_sizeOf l G cI cJ cD cH H.size ((t_holders_tree 2) &&& t_desk_tree) x5 hx5) gX8_common_X6_sizeOf rfl rfl rfl (by decide +kernel) ⟨by first | exact Nat.le_of_ble_eq_true rfl | (simp only [headSpec]; omega), by first | exact Nat.le_of_ble_eq_true rfl | (simp only [headSpec]; omega)⟩ hK hP hD hS hA [] (by decide) rfl rfl rfl hl.1 (Nat.le_of_ble_eq_true rfl) dX8_common_51 ⟨Nat.zero_le _, Nat.zero_le _⟩ (fun hp5 H locs hP hS => ?_)
    cases h
    exact k_iret hx hb hr hlocks hP hS rfl dX8_common_54
  · refine k_VqU (n := 1) (As := [.int p0]) (rest := []) hx hb hml hown hts (c_X8_holderAt l G cI cJ cD cH s.heap.size h_t h_t_holders h_t_desk h_t_imageDesk h_t_deeds h_t_numbers h_t_tape h_t_reader h_t_speller d_t_holders q_t_holders a_t_holders t_holders_sort t_holders_tree t_holders_limit t_holders_above t_holders_size t_imageKept p0 3 hx1) gX8_common_X8_holderAt rfl rfl rfl (by decide +kernel) ⟨by first | exact Nat.le_of_ble_eq_true rfl | (simp only [headSpec]; omega), by first | exact Nat.le_of_ble_eq_true rfl | (simp only [headSpec]; omega)⟩ hK hP hD hS hA [0, 1, 2, 3, 4, 5, 6, 7, 8, 9, 10, 11, 12, 13] (by decide) rfl (ci := 7) rfl rfl rfl rfl rfl hl.1 (Nat.le_of_ble_eq_true rfl) dX8_common_2 ⟨Nat.zero_le _, Nat.zero_le _⟩ (fun hp1 H locs hP hS => ?_)
    refine W.eq (g2 := F0 m 5 ls [.ref (d_t_holders 3)]) rfl ?_
    have h := it_n h (by decide)
    refine lv_astore_n (lv' := [(2, .ref (d_t_holders 3)), (0, .ref h_t), (1, .int p0)]) hx hb dX8_common_5 rfl hl (by decide) rfl (fun ls hl => ?_)
    refine lv_aload_n hx hb dX8_common_6 rfl (lv_at hl 0 rfl) ?_
    refine lv_iconst (v := (2 : Int32)) hx hb dX8_common_7 (by decide) ?_
    obtain ⟨x2, hx2, h⟩ := bd_e h
    try dsimp only at h
    refine k_SiU (n := 2) (As := [.ref (d_t_holders 3), .int (2 : Int32)]) (rest := []) hx hb hml hown hts (c_X8_refusalOf l G cI cJ cD cH H.size (d_t_holders 3) (q_t_holders 3) (t_holders_sort 3) (t_holders_tree 3) (t_holders_limit 3) (t_holders_above 3) (t_holders_size 3) (2 : Int32) x2 hx2) gX8_common_X8_refusalOf rfl rfl rfl (by decide +kernel) ⟨by first | exact Nat.le_of_ble_eq_true rfl | (simp only [headSpec]; omega), by first | exact Nat.le_of_ble_eq_true rfl | (simp only [headSpec]; omega)⟩ hK hP hD hS hA [8] (by decide) rfl rfl rfl hl.1 (Nat.le_of_ble_eq_true rfl) dX8_common_8 ⟨Nat.zero_le _, Nat.zero_le _⟩ (fun hp2 H locs hP hS => ?_)
    refine lv_istore_n (lv' := [(3, .int x2), (2, .ref (d_t_holders 3)), (0, .ref h_t), (1, .int p0)]) hx hb dX8_common_11 rfl hl (by decide) rfl (fun ls hl => ?_)
    refine lv_aload_n hx hb dX8_common_12 rfl (lv_at hl 1 rfl) ?_
    refine lv_ifnull hx hb dX8_common_13 ?_
    refine lv_iload_n hx hb dX8_common_16 rfl (lv_at hl 0 rfl) ?_
    refine lv_if_eq (tgt := 22) hx hb dX8_common_17 (by decide) (fun c3 => ?_) (fun c3 => ?_)
    rotate_left
    · have h := it_n h c3
      refine lv_iload_n hx hb dX8_common_20 rfl (lv_at hl 0 rfl) ?_
      cases h
      exact k_iret hx hb hr hlocks hP hS rfl dX8_common_21
    have h := it_p h c3
    refine lv_aload_n hx hb dX8_common_22 rfl (lv_at hl 1 rfl) ?_
    refine va_get (D := G) (ci := 2) (v := .int (t_holders_limit 3)) (C := RX2) (T := TX2) (N := 6) hx hb hts hinX2 hown hK hP 8 rfl rfl 2 (by decide) (hts (.fieldLink RX8 280 "MarkedCurves$Holder" "limit" "I") (List.mem_of_getElem? (i := 1) (by decide +kernel))) (fun _ h9 => h9) rfl dX8_common_23 ?_
    refine lv_aload_n hx hb dX8_common_26 rfl (lv_at hl 2 rfl) ?_
    refine va_get (D := G) (ci := 7) (v := .ref h_t_desk) (C := RX8) (T := TX8) (N := 9) hx hb hts hinX8 hown hK hP 0 rfl rfl 0 (by decide) (hts (.fieldLink RX8 12 "MarkedCurves" "desk" "LMarkedCurves$Desk;") (List.mem_of_getElem? (i := 2) (by decide +kernel))) (fun _ h9 => h9) rfl dX8_common_27 ?_
    refine va_get (D := G) (ci := 1) (v := .int t_desk_limit) (C := RX1) (T := TX1) (N := 5) hx hb hts hinX1 hown hK hP 14 rfl rfl 3 (by decide) (hts (.fieldLink RX8 153 "MarkedCurves$Desk" "limit" "I") (List.mem_of_getElem? (i := 3) (by decide +kernel))) (fun _ h9 => h9) rfl dX8_common_30 ?_
    refine lv_icmp_eq (tgt := 39) hx hb dX8_common_33 (by decide) (fun c4 => ?_) (fun c4 => ?_)
    rotate_left
    · have h := it_n h c4
      refine lv_bipush (v := (-5 : Int32)) hx hb dX8_common_36 (by decide) ?_
      cases h
      exact k_iret hx hb hr hlocks hP hS rfl dX8_common_38
    have h := it_p h c4
    refine lv_aload_n hx hb dX8_common_39 rfl (lv_at hl 1 rfl) ?_
    refine va_get (D := G) (ci := 2) (v := .long (t_holders_tree 3)) (C := RX2) (T := TX2) (N := 6) hx hb hts hinX2 hown hK hP 8 rfl rfl 1 (by decide) (hts (.fieldLink RX8 281 "MarkedCurves$Holder" "tree" "J") (List.mem_of_getElem? (i := 4) (by decide +kernel))) (fun _ h9 => h9) rfl dX8_common_40 ?_
    refine lv_aload_n hx hb dX8_common_43 rfl (lv_at hl 2 rfl) ?_
    refine va_get (D := G) (ci := 7) (v := .ref h_t_desk) (C := RX8) (T := TX8) (N := 9) hx hb hts hinX8 hown hK hP 0 rfl rfl 0 (by decide) (hts (.fieldLink RX8 12 "MarkedCurves" "desk" "LMarkedCurves$Desk;") (List.mem_of_getElem? (i := 2) (by decide +kernel))) (fun _ h9 => h9) rfl dX8_common_44 ?_
    refine va_get (D := G) (ci := 1) (v := .long t_desk_tree) (C := RX1) (T := TX1) (N := 5) hx hb hts hinX1 hown hK hP 14 rfl rfl 4 (by decide) (hts (.fieldLink RX8 156 "MarkedCurves$Desk" "tree" "J") (List.mem_of_getElem? (i := 5) (by decide +kernel))) (fun _ h9 => h9) rfl dX8_common_47 ?_
    refine lv_land hx hb dX8_common_50 ?_
    obtain ⟨x5, hx5, h⟩ := bd_e h
    try dsimp only at h
    refine k_SiU (n := 1) (As := [.long ((t_holders_tree 3) &&& t_desk_tree)]) (rest := []) hx hb hml hown hts (c_X6_sizeOf l G cI cJ cD cH H.size ((t_holders_tree 3) &&& t_desk_tree) x5 hx5) gX8_common_X6_sizeOf rfl rfl rfl (by decide +kernel) ⟨by first | exact Nat.le_of_ble_eq_true rfl | (simp only [headSpec]; omega), by first | exact Nat.le_of_ble_eq_true rfl | (simp only [headSpec]; omega)⟩ hK hP hD hS hA [] (by decide) rfl rfl rfl hl.1 (Nat.le_of_ble_eq_true rfl) dX8_common_51 ⟨Nat.zero_le _, Nat.zero_le _⟩ (fun hp5 H locs hP hS => ?_)
    cases h
    exact k_iret hx hb hr hlocks hP hS rfl dX8_common_54
  · refine k_VqU (n := 1) (As := [.int p0]) (rest := []) hx hb hml hown hts (c_X8_holderAt l G cI cJ cD cH s.heap.size h_t h_t_holders h_t_desk h_t_imageDesk h_t_deeds h_t_numbers h_t_tape h_t_reader h_t_speller d_t_holders q_t_holders a_t_holders t_holders_sort t_holders_tree t_holders_limit t_holders_above t_holders_size t_imageKept p0 4 hx1) gX8_common_X8_holderAt rfl rfl rfl (by decide +kernel) ⟨by first | exact Nat.le_of_ble_eq_true rfl | (simp only [headSpec]; omega), by first | exact Nat.le_of_ble_eq_true rfl | (simp only [headSpec]; omega)⟩ hK hP hD hS hA [0, 1, 2, 3, 4, 5, 6, 7, 8, 9, 10, 11, 12, 13] (by decide) rfl (ci := 7) rfl rfl rfl rfl rfl hl.1 (Nat.le_of_ble_eq_true rfl) dX8_common_2 ⟨Nat.zero_le _, Nat.zero_le _⟩ (fun hp1 H locs hP hS => ?_)
    refine W.eq (g2 := F0 m 5 ls [.ref (d_t_holders 4)]) rfl ?_
    have h := it_n h (by decide)
    refine lv_astore_n (lv' := [(2, .ref (d_t_holders 4)), (0, .ref h_t), (1, .int p0)]) hx hb dX8_common_5 rfl hl (by decide) rfl (fun ls hl => ?_)
    refine lv_aload_n hx hb dX8_common_6 rfl (lv_at hl 0 rfl) ?_
    refine lv_iconst (v := (2 : Int32)) hx hb dX8_common_7 (by decide) ?_
    obtain ⟨x2, hx2, h⟩ := bd_e h
    try dsimp only at h
    refine k_SiU (n := 2) (As := [.ref (d_t_holders 4), .int (2 : Int32)]) (rest := []) hx hb hml hown hts (c_X8_refusalOf l G cI cJ cD cH H.size (d_t_holders 4) (q_t_holders 4) (t_holders_sort 4) (t_holders_tree 4) (t_holders_limit 4) (t_holders_above 4) (t_holders_size 4) (2 : Int32) x2 hx2) gX8_common_X8_refusalOf rfl rfl rfl (by decide +kernel) ⟨by first | exact Nat.le_of_ble_eq_true rfl | (simp only [headSpec]; omega), by first | exact Nat.le_of_ble_eq_true rfl | (simp only [headSpec]; omega)⟩ hK hP hD hS hA [10] (by decide) rfl rfl rfl hl.1 (Nat.le_of_ble_eq_true rfl) dX8_common_8 ⟨Nat.zero_le _, Nat.zero_le _⟩ (fun hp2 H locs hP hS => ?_)
    refine lv_istore_n (lv' := [(3, .int x2), (2, .ref (d_t_holders 4)), (0, .ref h_t), (1, .int p0)]) hx hb dX8_common_11 rfl hl (by decide) rfl (fun ls hl => ?_)
    refine lv_aload_n hx hb dX8_common_12 rfl (lv_at hl 1 rfl) ?_
    refine lv_ifnull hx hb dX8_common_13 ?_
    refine lv_iload_n hx hb dX8_common_16 rfl (lv_at hl 0 rfl) ?_
    refine lv_if_eq (tgt := 22) hx hb dX8_common_17 (by decide) (fun c3 => ?_) (fun c3 => ?_)
    rotate_left
    · have h := it_n h c3
      refine lv_iload_n hx hb dX8_common_20 rfl (lv_at hl 0 rfl) ?_
      cases h
      exact k_iret hx hb hr hlocks hP hS rfl dX8_common_21
    have h := it_p h c3
    refine lv_aload_n hx hb dX8_common_22 rfl (lv_at hl 1 rfl) ?_
    refine va_get (D := G) (ci := 2) (v := .int (t_holders_limit 4)) (C := RX2) (T := TX2) (N := 6) hx hb hts hinX2 hown hK hP 10 rfl rfl 2 (by decide) (hts (.fieldLink RX8 280 "MarkedCurves$Holder" "limit" "I") (List.mem_of_getElem? (i := 1) (by decide +kernel))) (fun _ h9 => h9) rfl dX8_common_23 ?_
    refine lv_aload_n hx hb dX8_common_26 rfl (lv_at hl 2 rfl) ?_
    refine va_get (D := G) (ci := 7) (v := .ref h_t_desk) (C := RX8) (T := TX8) (N := 9) hx hb hts hinX8 hown hK hP 0 rfl rfl 0 (by decide) (hts (.fieldLink RX8 12 "MarkedCurves" "desk" "LMarkedCurves$Desk;") (List.mem_of_getElem? (i := 2) (by decide +kernel))) (fun _ h9 => h9) rfl dX8_common_27 ?_
    refine va_get (D := G) (ci := 1) (v := .int t_desk_limit) (C := RX1) (T := TX1) (N := 5) hx hb hts hinX1 hown hK hP 14 rfl rfl 3 (by decide) (hts (.fieldLink RX8 153 "MarkedCurves$Desk" "limit" "I") (List.mem_of_getElem? (i := 3) (by decide +kernel))) (fun _ h9 => h9) rfl dX8_common_30 ?_
    refine lv_icmp_eq (tgt := 39) hx hb dX8_common_33 (by decide) (fun c4 => ?_) (fun c4 => ?_)
    rotate_left
    · have h := it_n h c4
      refine lv_bipush (v := (-5 : Int32)) hx hb dX8_common_36 (by decide) ?_
      cases h
      exact k_iret hx hb hr hlocks hP hS rfl dX8_common_38
    have h := it_p h c4
    refine lv_aload_n hx hb dX8_common_39 rfl (lv_at hl 1 rfl) ?_
    refine va_get (D := G) (ci := 2) (v := .long (t_holders_tree 4)) (C := RX2) (T := TX2) (N := 6) hx hb hts hinX2 hown hK hP 10 rfl rfl 1 (by decide) (hts (.fieldLink RX8 281 "MarkedCurves$Holder" "tree" "J") (List.mem_of_getElem? (i := 4) (by decide +kernel))) (fun _ h9 => h9) rfl dX8_common_40 ?_
    refine lv_aload_n hx hb dX8_common_43 rfl (lv_at hl 2 rfl) ?_
    refine va_get (D := G) (ci := 7) (v := .ref h_t_desk) (C := RX8) (T := TX8) (N := 9) hx hb hts hinX8 hown hK hP 0 rfl rfl 0 (by decide) (hts (.fieldLink RX8 12 "MarkedCurves" "desk" "LMarkedCurves$Desk;") (List.mem_of_getElem? (i := 2) (by decide +kernel))) (fun _ h9 => h9) rfl dX8_common_44 ?_
    refine va_get (D := G) (ci := 1) (v := .long t_desk_tree) (C := RX1) (T := TX1) (N := 5) hx hb hts hinX1 hown hK hP 14 rfl rfl 4 (by decide) (hts (.fieldLink RX8 156 "MarkedCurves$Desk" "tree" "J") (List.mem_of_getElem? (i := 5) (by decide +kernel))) (fun _ h9 => h9) rfl dX8_common_47 ?_
    refine lv_land hx hb dX8_common_50 ?_
    obtain ⟨x5, hx5, h⟩ := bd_e h
    try dsimp only at h
    refine k_SiU (n := 1) (As := [.long ((t_holders_tree 4) &&& t_desk_tree)]) (rest := []) hx hb hml hown hts (c_X6_sizeOf l G cI cJ cD cH H.size ((t_holders_tree 4) &&& t_desk_tree) x5 hx5) gX8_common_X6_sizeOf rfl rfl rfl (by decide +kernel) ⟨by first | exact Nat.le_of_ble_eq_true rfl | (simp only [headSpec]; omega), by first | exact Nat.le_of_ble_eq_true rfl | (simp only [headSpec]; omega)⟩ hK hP hD hS hA [] (by decide) rfl rfl rfl hl.1 (Nat.le_of_ble_eq_true rfl) dX8_common_51 ⟨Nat.zero_le _, Nat.zero_le _⟩ (fun hp5 H locs hP hS => ?_)
    cases h
    exact k_iret hx hb hr hlocks hP hS rfl dX8_common_54
  · refine k_VqU (n := 1) (As := [.int p0]) (rest := []) hx hb hml hown hts (c_X8_holderAt l G cI cJ cD cH s.heap.size h_t h_t_holders h_t_desk h_t_imageDesk h_t_deeds h_t_numbers h_t_tape h_t_reader h_t_speller d_t_holders q_t_holders a_t_holders t_holders_sort t_holders_tree t_holders_limit t_holders_above t_holders_size t_imageKept p0 5 hx1) gX8_common_X8_holderAt rfl rfl rfl (by decide +kernel) ⟨by first | exact Nat.le_of_ble_eq_true rfl | (simp only [headSpec]; omega), by first | exact Nat.le_of_ble_eq_true rfl | (simp only [headSpec]; omega)⟩ hK hP hD hS hA [0, 1, 2, 3, 4, 5, 6, 7, 8, 9, 10, 11, 12, 13] (by decide) rfl (ci := 7) rfl rfl rfl rfl rfl hl.1 (Nat.le_of_ble_eq_true rfl) dX8_common_2 ⟨Nat.zero_le _, Nat.zero_le _⟩ (fun hp1 H locs hP hS => ?_)
    refine W.eq (g2 := F0 m 5 ls [.ref (d_t_holders 5)]) rfl ?_
    have h := it_n h (by decide)
    refine lv_astore_n (lv' := [(2, .ref (d_t_holders 5)), (0, .ref h_t), (1, .int p0)]) hx hb dX8_common_5 rfl hl (by decide) rfl (fun ls hl => ?_)
    refine lv_aload_n hx hb dX8_common_6 rfl (lv_at hl 0 rfl) ?_
    refine lv_iconst (v := (2 : Int32)) hx hb dX8_common_7 (by decide) ?_
    obtain ⟨x2, hx2, h⟩ := bd_e h
    try dsimp only at h
    refine k_SiU (n := 2) (As := [.ref (d_t_holders 5), .int (2 : Int32)]) (rest := []) hx hb hml hown hts (c_X8_refusalOf l G cI cJ cD cH H.size (d_t_holders 5) (q_t_holders 5) (t_holders_sort 5) (t_holders_tree 5) (t_holders_limit 5) (t_holders_above 5) (t_holders_size 5) (2 : Int32) x2 hx2) gX8_common_X8_refusalOf rfl rfl rfl (by decide +kernel) ⟨by first | exact Nat.le_of_ble_eq_true rfl | (simp only [headSpec]; omega), by first | exact Nat.le_of_ble_eq_true rfl | (simp only [headSpec]; omega)⟩ hK hP hD hS hA [12] (by decide) rfl rfl rfl hl.1 (Nat.le_of_ble_eq_true rfl) dX8_common_8 ⟨Nat.zero_le _, Nat.zero_le _⟩ (fun hp2 H locs hP hS => ?_)
    refine lv_istore_n (lv' := [(3, .int x2), (2, .ref (d_t_holders 5)), (0, .ref h_t), (1, .int p0)]) hx hb dX8_common_11 rfl hl (by decide) rfl (fun ls hl => ?_)
    refine lv_aload_n hx hb dX8_common_12 rfl (lv_at hl 1 rfl) ?_
    refine lv_ifnull hx hb dX8_common_13 ?_
    refine lv_iload_n hx hb dX8_common_16 rfl (lv_at hl 0 rfl) ?_
    refine lv_if_eq (tgt := 22) hx hb dX8_common_17 (by decide) (fun c3 => ?_) (fun c3 => ?_)
    rotate_left
    · have h := it_n h c3
      refine lv_iload_n hx hb dX8_common_20 rfl (lv_at hl 0 rfl) ?_
      cases h
      exact k_iret hx hb hr hlocks hP hS rfl dX8_common_21
    have h := it_p h c3
    refine lv_aload_n hx hb dX8_common_22 rfl (lv_at hl 1 rfl) ?_
    refine va_get (D := G) (ci := 2) (v := .int (t_holders_limit 5)) (C := RX2) (T := TX2) (N := 6) hx hb hts hinX2 hown hK hP 12 rfl rfl 2 (by decide) (hts (.fieldLink RX8 280 "MarkedCurves$Holder" "limit" "I") (List.mem_of_getElem? (i := 1) (by decide +kernel))) (fun _ h9 => h9) rfl dX8_common_23 ?_
    refine lv_aload_n hx hb dX8_common_26 rfl (lv_at hl 2 rfl) ?_
    refine va_get (D := G) (ci := 7) (v := .ref h_t_desk) (C := RX8) (T := TX8) (N := 9) hx hb hts hinX8 hown hK hP 0 rfl rfl 0 (by decide) (hts (.fieldLink RX8 12 "MarkedCurves" "desk" "LMarkedCurves$Desk;") (List.mem_of_getElem? (i := 2) (by decide +kernel))) (fun _ h9 => h9) rfl dX8_common_27 ?_
    refine va_get (D := G) (ci := 1) (v := .int t_desk_limit) (C := RX1) (T := TX1) (N := 5) hx hb hts hinX1 hown hK hP 14 rfl rfl 3 (by decide) (hts (.fieldLink RX8 153 "MarkedCurves$Desk" "limit" "I") (List.mem_of_getElem? (i := 3) (by decide +kernel))) (fun _ h9 => h9) rfl dX8_common_30 ?_
    refine lv_icmp_eq (tgt := 39) hx hb dX8_common_33 (by decide) (fun c4 => ?_) (fun c4 => ?_)
    rotate_left
    · have h := it_n h c4
      refine lv_bipush (v := (-5 : Int32)) hx hb dX8_common_36 (by decide) ?_
      cases h
      exact k_iret hx hb hr hlocks hP hS rfl dX8_common_38
    have h := it_p h c4
    refine lv_aload_n hx hb dX8_common_39 rfl (lv_at hl 1 rfl) ?_
    refine va_get (D := G) (ci := 2) (v := .long (t_holders_tree 5)) (C := RX2) (T := TX2) (N := 6) hx hb hts hinX2 hown hK hP 12 rfl rfl 1 (by decide) (hts (.fieldLink RX8 281 "MarkedCurves$Holder" "tree" "J") (List.mem_of_getElem? (i := 4) (by decide +kernel))) (fun _ h9 => h9) rfl dX8_common_40 ?_
    refine lv_aload_n hx hb dX8_common_43 rfl (lv_at hl 2 rfl) ?_
    refine va_get (D := G) (ci := 7) (v := .ref h_t_desk) (C := RX8) (T := TX8) (N := 9) hx hb hts hinX8 hown hK hP 0 rfl rfl 0 (by decide) (hts (.fieldLink RX8 12 "MarkedCurves" "desk" "LMarkedCurves$Desk;") (List.mem_of_getElem? (i := 2) (by decide +kernel))) (fun _ h9 => h9) rfl dX8_common_44 ?_
    refine va_get (D := G) (ci := 1) (v := .long t_desk_tree) (C := RX1) (T := TX1) (N := 5) hx hb hts hinX1 hown hK hP 14 rfl rfl 4 (by decide) (hts (.fieldLink RX8 156 "MarkedCurves$Desk" "tree" "J") (List.mem_of_getElem? (i := 5) (by decide +kernel))) (fun _ h9 => h9) rfl dX8_common_47 ?_
    refine lv_land hx hb dX8_common_50 ?_
    obtain ⟨x5, hx5, h⟩ := bd_e h
    try dsimp only at h
    refine k_SiU (n := 1) (As := [.long ((t_holders_tree 5) &&& t_desk_tree)]) (rest := []) hx hb hml hown hts (c_X6_sizeOf l G cI cJ cD cH H.size ((t_holders_tree 5) &&& t_desk_tree) x5 hx5) gX8_common_X6_sizeOf rfl rfl rfl (by decide +kernel) ⟨by first | exact Nat.le_of_ble_eq_true rfl | (simp only [headSpec]; omega), by first | exact Nat.le_of_ble_eq_true rfl | (simp only [headSpec]; omega)⟩ hK hP hD hS hA [] (by decide) rfl rfl rfl hl.1 (Nat.le_of_ble_eq_true rfl) dX8_common_51 ⟨Nat.zero_le _, Nat.zero_le _⟩ (fun hp5 H locs hP hS => ?_)
    cases h
    exact k_iret hx hb hr hlocks hP hS rfl dX8_common_54
  · refine k_VqU (n := 1) (As := [.int p0]) (rest := []) hx hb hml hown hts (c_X8_holderAt l G cI cJ cD cH s.heap.size h_t h_t_holders h_t_desk h_t_imageDesk h_t_deeds h_t_numbers h_t_tape h_t_reader h_t_speller d_t_holders q_t_holders a_t_holders t_holders_sort t_holders_tree t_holders_limit t_holders_above t_holders_size t_imageKept p0 6 hx1) gX8_common_X8_holderAt rfl rfl rfl (by decide +kernel) ⟨by first | exact Nat.le_of_ble_eq_true rfl | (simp only [headSpec]; omega), by first | exact Nat.le_of_ble_eq_true rfl | (simp only [headSpec]; omega)⟩ hK hP hD hS hA [0, 1, 2, 3, 4, 5, 6, 7, 8, 9, 10, 11, 12, 13] (by decide) rfl (ci := 7) rfl rfl rfl rfl rfl hl.1 (Nat.le_of_ble_eq_true rfl) dX8_common_2 ⟨Nat.zero_le _, Nat.zero_le _⟩ (fun hp1 H locs hP hS => ?_)
    refine W.eq (g2 := F0 m 5 ls [.null]) rfl ?_
    have h := it_p h rfl
    refine lv_astore_nN (lv' := [(2, .null), (0, .ref h_t), (1, .int p0)]) hx hb dX8_common_5 rfl hl (by decide) rfl (fun ls hl => ?_)
    refine lv_aload_nN hx hb dX8_common_6 rfl (lv_at hl 0 rfl) ?_
    refine lv_iconst (v := (2 : Int32)) hx hb dX8_common_7 (by decide) ?_
    obtain ⟨x6, hx6, h⟩ := bd_e h
    try dsimp only at h
    refine k_SiU (n := 2) (As := [.null, .int (2 : Int32)]) (rest := []) hx hb hml hown hts (c_X8_refusalOfN l G cI cJ cD cH H.size (2 : Int32) x6 hx6) gX8_common_X8_refusalOf rfl rfl rfl (by decide +kernel) ⟨by first | exact Nat.le_of_ble_eq_true rfl | (simp only [headSpec]; omega), by first | exact Nat.le_of_ble_eq_true rfl | (simp only [headSpec]; omega)⟩ hK hP hD hS hA [] (by decide) rfl rfl rfl hl.1 (Nat.le_of_ble_eq_true rfl) dX8_common_8 ⟨Nat.zero_le _, Nat.zero_le _⟩ (fun hp6 H locs hP hS => ?_)
    refine lv_istore_n (lv' := [(3, .int x6), (2, .null), (0, .ref h_t), (1, .int p0)]) hx hb dX8_common_11 rfl hl (by decide) rfl (fun ls hl => ?_)
    refine lv_aload_nN hx hb dX8_common_12 rfl (lv_at hl 1 rfl) ?_
    refine lv_ifnullN (tgt := 20) hx hb dX8_common_13 (by decide) ?_
    refine lv_iload_n hx hb dX8_common_20 rfl (lv_at hl 0 rfl) ?_
    cases h
    exact k_iret hx hb hr hlocks hP hS rfl dX8_common_21

/-! X8_row -/
noncomputable def F_X8_row (a_t_holders : Nat → Nat → Int32) (t_holders_sort : Nat → Int32) (t_holders_size : Nat → Int32) (p0 : Int32) (p1 : Int32) : Option (Int32 × (Nat → Nat → Int32) × (Nat → Int32) × (Nat → Int32)) :=
  bd (F_X8_holderAt p0) (fun x1 => if x1 = 6 then (some ((-1 : Int32), a_t_holders, t_holders_size, t_holders_sort)) else (if p1 ≤ (20 : Int32) then (if 0 ≤ p1 then (bd (F_X2_holdRow (a_t_holders x1) p1) (fun x4 => some (p1, (va_up a_t_holders x1 (x4.1)), (va_up t_holders_size x1 (x4.2.2)), (va_up t_holders_sort x1 (x4.2.1))))) else (some ((-14 : Int32), a_t_holders, t_holders_size, t_holders_sort))) else (some ((-1 : Int32), a_t_holders, t_holders_size, t_holders_sort))))
set_option maxHeartbeats 40000000 in
set_option maxRecDepth 100000 in
theorem c_X8_row (l : Launch) (G : va_G) (cI cJ cD cH : ClassId) (sz : Nat) (h_t : Nat) (h_t_holders : Nat) (h_t_desk : Nat) (h_t_imageDesk : Nat) (h_t_deeds : Nat) (h_t_numbers : Nat) (h_t_tape : Nat) (h_t_reader : Nat) (h_t_speller : Nat) (d_t_holders : Nat → Nat) (q_t_holders : Nat → Nat) (a_t_holders : Nat → Nat → Int32) (t_holders_sort : Nat → Int32) (t_holders_tree : Nat → Int64) (t_holders_limit : Nat → Int32) (t_holders_above : Nat → Int64) (t_holders_size : Nat → Int32) (t_imageKept : Int32) (p0 : Int32) (p1 : Int32) (r0 : Int32) (w0 : Nat → Nat → Int32) (w1 : Nat → Int32) (w2 : Nat → Int32) (hF : F_X8_row a_t_holders t_holders_sort t_holders_size p0 p1 = some (r0, w0, w1, w2)) : Met l yX8_row wsX8_row ({ frames := 1, cells := 0, slots := 0, locals := 22 }) (k_pre G (k_T cI cJ cD cH) [(h_t, .inr (7, [.ref h_t_desk, .ref h_t_imageDesk, .ref h_t_deeds, .ref h_t_numbers, .ref h_t_tape, .ref h_t_reader, .ref h_t_speller, .ref h_t_holders, .int t_imageKept])), (h_t_holders, .inl (cH, 6, .inr (.inr (.inr (.inr (fun i => some (d_t_holders i))))))), ((d_t_holders 0), .inr (2, [.int (t_holders_sort 0), .long (t_holders_tree 0), .int (t_holders_limit 0), .ref (q_t_holders 0), .long (t_holders_above 0), .int (t_holders_size 0)])), ((q_t_holders 0), .inl (cI, 20, .inl (a_t_holders 0))), ((d_t_holders 1), .inr (2, [.int (t_holders_sort 1), .long (t_holders_tree 1), .int (t_holders_limit 1), .ref (q_t_holders 1), .long (t_holders_above 1), .int (t_holders_size 1)])), ((q_t_holders 1), .inl (cI, 20, .inl (a_t_holders 1))), ((d_t_holders 2), .inr (2, [.int (t_holders_sort 2), .long (t_holders_tree 2), .int (t_holders_limit 2), .ref (q_t_holders 2), .long (t_holders_above 2), .int (t_holders_size 2)])), ((q_t_holders 2), .inl (cI, 20, .inl (a_t_holders 2))), ((d_t_holders 3), .inr (2, [.int (t_holders_sort 3), .long (t_holders_tree 3), .int (t_holders_limit 3), .ref (q_t_holders 3), .long (t_holders_above 3), .int (t_holders_size 3)])), ((q_t_holders 3), .inl (cI, 20, .inl (a_t_holders 3))), ((d_t_holders 4), .inr (2, [.int (t_holders_sort 4), .long (t_holders_tree 4), .int (t_holders_limit 4), .ref (q_t_holders 4), .long (t_holders_above 4), .int (t_holders_size 4)])), ((q_t_holders 4), .inl (cI, 20, .inl (a_t_holders 4))), ((d_t_holders 5), .inr (2, [.int (t_holders_sort 5), .long (t_holders_tree 5), .int (t_holders_limit 5), .ref (q_t_holders 5), .long (t_holders_above 5), .int (t_holders_size 5)])), ((q_t_holders 5), .inl (cI, 20, .inl (a_t_holders 5)))] sz [.ref h_t, .int p0, .int p1]) (va_Qi (fun r (_ : Unit) => r = r0 ∧ True) (fun _ t => va_P G vwCl [(h_t, .inr (7, [.ref h_t_desk, .ref h_t_imageDesk, .ref h_t_deeds, .ref h_t_numbers, .ref h_t_tape, .ref h_t_reader, .ref h_t_speller, .ref h_t_holders, .int t_imageKept])), (h_t_holders, .inl (cH, 6, .inr (.inr (.inr (.inr (fun i => some (d_t_holders i))))))), ((d_t_holders 0), .inr (2, [.int (w2 0), .long (t_holders_tree 0), .int (t_holders_limit 0), .ref (q_t_holders 0), .long (t_holders_above 0), .int (w1 0)])), ((q_t_holders 0), .inl (cI, 20, .inl (w0 0))), ((d_t_holders 1), .inr (2, [.int (w2 1), .long (t_holders_tree 1), .int (t_holders_limit 1), .ref (q_t_holders 1), .long (t_holders_above 1), .int (w1 1)])), ((q_t_holders 1), .inl (cI, 20, .inl (w0 1))), ((d_t_holders 2), .inr (2, [.int (w2 2), .long (t_holders_tree 2), .int (t_holders_limit 2), .ref (q_t_holders 2), .long (t_holders_above 2), .int (w1 2)])), ((q_t_holders 2), .inl (cI, 20, .inl (w0 2))), ((d_t_holders 3), .inr (2, [.int (w2 3), .long (t_holders_tree 3), .int (t_holders_limit 3), .ref (q_t_holders 3), .long (t_holders_above 3), .int (w1 3)])), ((q_t_holders 3), .inl (cI, 20, .inl (w0 3))), ((d_t_holders 4), .inr (2, [.int (w2 4), .long (t_holders_tree 4), .int (t_holders_limit 4), .ref (q_t_holders 4), .long (t_holders_above 4), .int (w1 4)])), ((q_t_holders 4), .inl (cI, 20, .inl (w0 4))), ((d_t_holders 5), .inr (2, [.int (w2 5), .long (t_holders_tree 5), .int (t_holders_limit 5), .ref (q_t_holders 5), .long (t_holders_above 5), .int (w1 5)])), ((q_t_holders 5), .inl (cI, 20, .inl (w0 5)))] t.heap) (va_A [(h_t, .inr (7, [.ref h_t_desk, .ref h_t_imageDesk, .ref h_t_deeds, .ref h_t_numbers, .ref h_t_tape, .ref h_t_reader, .ref h_t_speller, .ref h_t_holders, .int t_imageKept])), (h_t_holders, .inl (cH, 6, .inr (.inr (.inr (.inr (fun i => some (d_t_holders i))))))), ((d_t_holders 0), .inr (2, [.int (t_holders_sort 0), .long (t_holders_tree 0), .int (t_holders_limit 0), .ref (q_t_holders 0), .long (t_holders_above 0), .int (t_holders_size 0)])), ((q_t_holders 0), .inl (cI, 20, .inl (a_t_holders 0))), ((d_t_holders 1), .inr (2, [.int (t_holders_sort 1), .long (t_holders_tree 1), .int (t_holders_limit 1), .ref (q_t_holders 1), .long (t_holders_above 1), .int (t_holders_size 1)])), ((q_t_holders 1), .inl (cI, 20, .inl (a_t_holders 1))), ((d_t_holders 2), .inr (2, [.int (t_holders_sort 2), .long (t_holders_tree 2), .int (t_holders_limit 2), .ref (q_t_holders 2), .long (t_holders_above 2), .int (t_holders_size 2)])), ((q_t_holders 2), .inl (cI, 20, .inl (a_t_holders 2))), ((d_t_holders 3), .inr (2, [.int (t_holders_sort 3), .long (t_holders_tree 3), .int (t_holders_limit 3), .ref (q_t_holders 3), .long (t_holders_above 3), .int (t_holders_size 3)])), ((q_t_holders 3), .inl (cI, 20, .inl (a_t_holders 3))), ((d_t_holders 4), .inr (2, [.int (t_holders_sort 4), .long (t_holders_tree 4), .int (t_holders_limit 4), .ref (q_t_holders 4), .long (t_holders_above 4), .int (t_holders_size 4)])), ((q_t_holders 4), .inl (cI, 20, .inl (a_t_holders 4))), ((d_t_holders 5), .inr (2, [.int (t_holders_sort 5), .long (t_holders_tree 5), .int (t_holders_limit 5), .ref (q_t_holders 5), .long (t_holders_above 5), .int (t_holders_size 5)])), ((q_t_holders 5), .inl (cI, 20, .inl (a_t_holders 5)))] sz)) 0 0 (va_A [(h_t, .inr (7, [.ref h_t_desk, .ref h_t_imageDesk, .ref h_t_deeds, .ref h_t_numbers, .ref h_t_tape, .ref h_t_reader, .ref h_t_speller, .ref h_t_holders, .int t_imageKept])), (h_t_holders, .inl (cH, 6, .inr (.inr (.inr (.inr (fun i => some (d_t_holders i))))))), ((d_t_holders 0), .inr (2, [.int (t_holders_sort 0), .long (t_holders_tree 0), .int (t_holders_limit 0), .ref (q_t_holders 0), .long (t_holders_above 0), .int (t_holders_size 0)])), ((q_t_holders 0), .inl (cI, 20, .inl (a_t_holders 0))), ((d_t_holders 1), .inr (2, [.int (t_holders_sort 1), .long (t_holders_tree 1), .int (t_holders_limit 1), .ref (q_t_holders 1), .long (t_holders_above 1), .int (t_holders_size 1)])), ((q_t_holders 1), .inl (cI, 20, .inl (a_t_holders 1))), ((d_t_holders 2), .inr (2, [.int (t_holders_sort 2), .long (t_holders_tree 2), .int (t_holders_limit 2), .ref (q_t_holders 2), .long (t_holders_above 2), .int (t_holders_size 2)])), ((q_t_holders 2), .inl (cI, 20, .inl (a_t_holders 2))), ((d_t_holders 3), .inr (2, [.int (t_holders_sort 3), .long (t_holders_tree 3), .int (t_holders_limit 3), .ref (q_t_holders 3), .long (t_holders_above 3), .int (t_holders_size 3)])), ((q_t_holders 3), .inl (cI, 20, .inl (a_t_holders 3))), ((d_t_holders 4), .inr (2, [.int (t_holders_sort 4), .long (t_holders_tree 4), .int (t_holders_limit 4), .ref (q_t_holders 4), .long (t_holders_above 4), .int (t_holders_size 4)])), ((q_t_holders 4), .inl (cI, 20, .inl (a_t_holders 4))), ((d_t_holders 5), .inr (2, [.int (t_holders_sort 5), .long (t_holders_tree 5), .int (t_holders_limit 5), .ref (q_t_holders 5), .long (t_holders_above 5), .int (t_holders_size 5)])), ((q_t_holders 5), .inl (cI, 20, .inl (a_t_holders 5)))] sz) := by
  refine Met.ofW (cc := cX8_row) (maxL := 4) (ret := (some .int)) (by decide) rfl ?_
  intro p e s m args below meth c s₁ B hml hv
  obtain ⟨rfl, hsz, hP, hK, hD0⟩ := hv
  have hx := B.exec
  have hb := B.bytes
  have hr := B.returns
  have hts := atoms_spec (ws := wsX8_row) B.pre
  have hown : s.vm.findClass RX8 = some m.cls := findClass_of_methodNamed B.named
  have hlocks := B.notSynchronized
  subst hsz
  have hD := hD0.self (sz := s.heap.size)
  generalize hAe : va_A [(h_t, .inr (7, [.ref h_t_desk, .ref h_t_imageDesk, .ref h_t_deeds, .ref h_t_numbers, .ref h_t_tape, .ref h_t_reader, .ref h_t_speller, .ref h_t_holders, .int t_imageKept])), (h_t_holders, .inl (cH, 6, .inr (.inr (.inr (.inr (fun i => some (d_t_holders i))))))), ((d_t_holders 0), .inr (2, [.int (t_holders_sort 0), .long (t_holders_tree 0), .int (t_holders_limit 0), .ref (q_t_holders 0), .long (t_holders_above 0), .int (t_holders_size 0)])), ((q_t_holders 0), .inl (cI, 20, .inl (a_t_holders 0))), ((d_t_holders 1), .inr (2, [.int (t_holders_sort 1), .long (t_holders_tree 1), .int (t_holders_limit 1), .ref (q_t_holders 1), .long (t_holders_above 1), .int (t_holders_size 1)])), ((q_t_holders 1), .inl (cI, 20, .inl (a_t_holders 1))), ((d_t_holders 2), .inr (2, [.int (t_holders_sort 2), .long (t_holders_tree 2), .int (t_holders_limit 2), .ref (q_t_holders 2), .long (t_holders_above 2), .int (t_holders_size 2)])), ((q_t_holders 2), .inl (cI, 20, .inl (a_t_holders 2))), ((d_t_holders 3), .inr (2, [.int (t_holders_sort 3), .long (t_holders_tree 3), .int (t_holders_limit 3), .ref (q_t_holders 3), .long (t_holders_above 3), .int (t_holders_size 3)])), ((q_t_holders 3), .inl (cI, 20, .inl (a_t_holders 3))), ((d_t_holders 4), .inr (2, [.int (t_holders_sort 4), .long (t_holders_tree 4), .int (t_holders_limit 4), .ref (q_t_holders 4), .long (t_holders_above 4), .int (t_holders_size 4)])), ((q_t_holders 4), .inl (cI, 20, .inl (a_t_holders 4))), ((d_t_holders 5), .inr (2, [.int (t_holders_sort 5), .long (t_holders_tree 5), .int (t_holders_limit 5), .ref (q_t_holders 5), .long (t_holders_above 5), .int (t_holders_size 5)])), ((q_t_holders 5), .inl (cI, 20, .inl (a_t_holders 5)))] s.heap.size = A at hD ⊢
  have hA : ∀ q : Nat, s.heap.size ≤ q → A q := fun q h => by rw [← hAe]; exact Or.inr h
  have hS : va_S A s.heap s.heap [] := va_S.rf
  have hl := lv_entry ([.ref h_t, .int p0, .int p1]) (n := 4) (Nat.le_of_ble_eq_true rfl)
  rw [lg_entry_eq]
  generalize (lg_sl ([.ref h_t, .int p0, .int p1]) ++ List.replicate (4 - (lg_sl ([.ref h_t, .int p0, .int p1])).length) Slot.unset).toArray = ls at hl ⊢
  have hl : lv_has ls 4 [(0, .ref h_t), (1, .int p0), (2, .int p1)] := hl
  have h := hF
  unfold F_X8_row at h
  refine lv_aload_n hx hb dX8_row_0 rfl (lv_at hl 0 rfl) ?_
  refine lv_iload_n hx hb dX8_row_1 rfl (lv_at hl 1 rfl) ?_
  obtain ⟨x1, hx1, h⟩ := bd_e h
  try dsimp only at h
  have hb1 := k_lt_X8_holderAt hx1
  obtain rfl | rfl | rfl | rfl | rfl | rfl | rfl := k_lt7 hb1
  · refine k_VqU (n := 1) (As := [.int p0]) (rest := []) hx hb hml hown hts (c_X8_holderAt l G cI cJ cD cH s.heap.size h_t h_t_holders h_t_desk h_t_imageDesk h_t_deeds h_t_numbers h_t_tape h_t_reader h_t_speller d_t_holders q_t_holders a_t_holders t_holders_sort t_holders_tree t_holders_limit t_holders_above t_holders_size t_imageKept p0 0 hx1) gX8_row_X8_holderAt rfl rfl rfl (by decide +kernel) ⟨by first | exact Nat.le_of_ble_eq_true rfl | (simp only [headSpec]; omega), by first | exact Nat.le_of_ble_eq_true rfl | (simp only [headSpec]; omega)⟩ hK hP hD hS hA [0, 1, 2, 3, 4, 5, 6, 7, 8, 9, 10, 11, 12, 13] (by decide) rfl (ci := 7) rfl rfl rfl rfl rfl hl.1 (Nat.le_of_ble_eq_true rfl) dX8_row_2 ⟨Nat.zero_le _, Nat.zero_le _⟩ (fun hp1 H locs hP hS => ?_)
    refine W.eq (g2 := F0 m 5 ls [.ref (d_t_holders 0)]) rfl ?_
    have h := it_n h (by decide)
    refine lv_astore_n (lv' := [(3, .ref (d_t_holders 0)), (0, .ref h_t), (1, .int p0), (2, .int p1)]) hx hb dX8_row_5 rfl hl (by decide) rfl (fun ls hl => ?_)
    refine lv_aload_n hx hb dX8_row_6 rfl (lv_at hl 0 rfl) ?_
    refine lv_ifnull hx hb dX8_row_7 ?_
    refine lv_iload_n hx hb dX8_row_10 rfl (lv_at hl 3 rfl) ?_
    refine lv_bipush (v := (20 : Int32)) hx hb dX8_row_11 (by decide) ?_
    refine lv_icmp_le (tgt := 18) hx hb dX8_row_13 (by decide) (fun c2 => ?_) (fun c2 => ?_)
    rotate_left
    · have h := it_n h c2
      refine lv_iconst (v := (-1 : Int32)) hx hb dX8_row_16 (by decide) ?_
      cases h
      exact k_iret hx hb hr hlocks hP hS rfl dX8_row_17
    have h := it_p h c2
    refine lv_iload_n hx hb dX8_row_18 rfl (lv_at hl 3 rfl) ?_
    refine lv_if_ge (tgt := 25) hx hb dX8_row_19 (by decide) (fun c3 => ?_) (fun c3 => ?_)
    rotate_left
    · have h := it_n h c3
      refine lv_bipush (v := (-14 : Int32)) hx hb dX8_row_22 (by decide) ?_
      cases h
      exact k_iret hx hb hr hlocks hP hS rfl dX8_row_24
    have h := it_p h c3
    refine lv_aload_n hx hb dX8_row_25 rfl (lv_at hl 0 rfl) ?_
    refine lv_iload_n hx hb dX8_row_26 rfl (lv_at hl 3 rfl) ?_
    obtain ⟨x4, hx4, h⟩ := bd_e h
    try dsimp only at h
    refine k_Vv (n := 1) (As := [.int p1]) (rest := []) hx hb hml hown hts (c_X2_holdRow l G cI cJ cD cH H.size (d_t_holders 0) (q_t_holders 0) (t_holders_sort 0) (t_holders_tree 0) (t_holders_limit 0) (t_holders_above 0) (t_holders_size 0) (a_t_holders 0) p1 (x4.1) (x4.2.1) (x4.2.2) hx4) gX8_row_X2_holdRow rfl rfl rfl (by decide +kernel) ⟨by first | exact Nat.le_of_ble_eq_true rfl | (simp only [headSpec]; omega), by first | exact Nat.le_of_ble_eq_true rfl | (simp only [headSpec]; omega)⟩ hK hP hD hS hA [2, 3] (by decide) rfl rfl (ci := 2) rfl rfl rfl rfl rfl hl.1 (Nat.le_of_ble_eq_true rfl) dX8_row_27 ⟨Nat.zero_le _, Nat.zero_le _⟩ [(h_t, .inr (7, [.ref h_t_desk, .ref h_t_imageDesk, .ref h_t_deeds, .ref h_t_numbers, .ref h_t_tape, .ref h_t_reader, .ref h_t_speller, .ref h_t_holders, .int t_imageKept])), (h_t_holders, .inl (cH, 6, .inr (.inr (.inr (.inr (fun i => some (d_t_holders i))))))), ((d_t_holders 0), .inr (2, [.int ((va_up t_holders_sort 0 (x4.2.1)) 0), .long (t_holders_tree 0), .int (t_holders_limit 0), .ref (q_t_holders 0), .long (t_holders_above 0), .int ((va_up t_holders_size 0 (x4.2.2)) 0)])), ((q_t_holders 0), .inl (cI, 20, .inl ((va_up a_t_holders 0 (x4.1)) 0))), ((d_t_holders 1), .inr (2, [.int ((va_up t_holders_sort 0 (x4.2.1)) 1), .long (t_holders_tree 1), .int (t_holders_limit 1), .ref (q_t_holders 1), .long (t_holders_above 1), .int ((va_up t_holders_size 0 (x4.2.2)) 1)])), ((q_t_holders 1), .inl (cI, 20, .inl ((va_up a_t_holders 0 (x4.1)) 1))), ((d_t_holders 2), .inr (2, [.int ((va_up t_holders_sort 0 (x4.2.1)) 2), .long (t_holders_tree 2), .int (t_holders_limit 2), .ref (q_t_holders 2), .long (t_holders_above 2), .int ((va_up t_holders_size 0 (x4.2.2)) 2)])), ((q_t_holders 2), .inl (cI, 20, .inl ((va_up a_t_holders 0 (x4.1)) 2))), ((d_t_holders 3), .inr (2, [.int ((va_up t_holders_sort 0 (x4.2.1)) 3), .long (t_holders_tree 3), .int (t_holders_limit 3), .ref (q_t_holders 3), .long (t_holders_above 3), .int ((va_up t_holders_size 0 (x4.2.2)) 3)])), ((q_t_holders 3), .inl (cI, 20, .inl ((va_up a_t_holders 0 (x4.1)) 3))), ((d_t_holders 4), .inr (2, [.int ((va_up t_holders_sort 0 (x4.2.1)) 4), .long (t_holders_tree 4), .int (t_holders_limit 4), .ref (q_t_holders 4), .long (t_holders_above 4), .int ((va_up t_holders_size 0 (x4.2.2)) 4)])), ((q_t_holders 4), .inl (cI, 20, .inl ((va_up a_t_holders 0 (x4.1)) 4))), ((d_t_holders 5), .inr (2, [.int ((va_up t_holders_sort 0 (x4.2.1)) 5), .long (t_holders_tree 5), .int (t_holders_limit 5), .ref (q_t_holders 5), .long (t_holders_above 5), .int ((va_up t_holders_size 0 (x4.2.2)) 5)])), ((q_t_holders 5), .inl (cI, 20, .inl ((va_up a_t_holders 0 (x4.1)) 5)))] [0, 1, 4, 5, 6, 7, 8, 9, 10, 11, 12, 13] 14 rfl rfl rfl (by decide +kernel) rfl (fun hp4 H locs hP hD hS => ?_)
    refine lv_iload_n hx hb dX8_row_30 rfl (lv_at hl 3 rfl) ?_
    cases h
    exact k_iret hx hb hr hlocks hP hS rfl dX8_row_31
  · refine k_VqU (n := 1) (As := [.int p0]) (rest := []) hx hb hml hown hts (c_X8_holderAt l G cI cJ cD cH s.heap.size h_t h_t_holders h_t_desk h_t_imageDesk h_t_deeds h_t_numbers h_t_tape h_t_reader h_t_speller d_t_holders q_t_holders a_t_holders t_holders_sort t_holders_tree t_holders_limit t_holders_above t_holders_size t_imageKept p0 1 hx1) gX8_row_X8_holderAt rfl rfl rfl (by decide +kernel) ⟨by first | exact Nat.le_of_ble_eq_true rfl | (simp only [headSpec]; omega), by first | exact Nat.le_of_ble_eq_true rfl | (simp only [headSpec]; omega)⟩ hK hP hD hS hA [0, 1, 2, 3, 4, 5, 6, 7, 8, 9, 10, 11, 12, 13] (by decide) rfl (ci := 7) rfl rfl rfl rfl rfl hl.1 (Nat.le_of_ble_eq_true rfl) dX8_row_2 ⟨Nat.zero_le _, Nat.zero_le _⟩ (fun hp1 H locs hP hS => ?_)
    refine W.eq (g2 := F0 m 5 ls [.ref (d_t_holders 1)]) rfl ?_
    have h := it_n h (by decide)
    refine lv_astore_n (lv' := [(3, .ref (d_t_holders 1)), (0, .ref h_t), (1, .int p0), (2, .int p1)]) hx hb dX8_row_5 rfl hl (by decide) rfl (fun ls hl => ?_)
    refine lv_aload_n hx hb dX8_row_6 rfl (lv_at hl 0 rfl) ?_
    refine lv_ifnull hx hb dX8_row_7 ?_
    refine lv_iload_n hx hb dX8_row_10 rfl (lv_at hl 3 rfl) ?_
    refine lv_bipush (v := (20 : Int32)) hx hb dX8_row_11 (by decide) ?_
    refine lv_icmp_le (tgt := 18) hx hb dX8_row_13 (by decide) (fun c2 => ?_) (fun c2 => ?_)
    rotate_left
    · have h := it_n h c2
      refine lv_iconst (v := (-1 : Int32)) hx hb dX8_row_16 (by decide) ?_
      cases h
      exact k_iret hx hb hr hlocks hP hS rfl dX8_row_17
    have h := it_p h c2
    refine lv_iload_n hx hb dX8_row_18 rfl (lv_at hl 3 rfl) ?_
    refine lv_if_ge (tgt := 25) hx hb dX8_row_19 (by decide) (fun c3 => ?_) (fun c3 => ?_)
    rotate_left
    · have h := it_n h c3
      refine lv_bipush (v := (-14 : Int32)) hx hb dX8_row_22 (by decide) ?_
      cases h
      exact k_iret hx hb hr hlocks hP hS rfl dX8_row_24
    have h := it_p h c3
    refine lv_aload_n hx hb dX8_row_25 rfl (lv_at hl 0 rfl) ?_
    refine lv_iload_n hx hb dX8_row_26 rfl (lv_at hl 3 rfl) ?_
    obtain ⟨x4, hx4, h⟩ := bd_e h
    try dsimp only at h
    refine k_Vv (n := 1) (As := [.int p1]) (rest := []) hx hb hml hown hts (c_X2_holdRow l G cI cJ cD cH H.size (d_t_holders 1) (q_t_holders 1) (t_holders_sort 1) (t_holders_tree 1) (t_holders_limit 1) (t_holders_above 1) (t_holders_size 1) (a_t_holders 1) p1 (x4.1) (x4.2.1) (x4.2.2) hx4) gX8_row_X2_holdRow rfl rfl rfl (by decide +kernel) ⟨by first | exact Nat.le_of_ble_eq_true rfl | (simp only [headSpec]; omega), by first | exact Nat.le_of_ble_eq_true rfl | (simp only [headSpec]; omega)⟩ hK hP hD hS hA [4, 5] (by decide) rfl rfl (ci := 2) rfl rfl rfl rfl rfl hl.1 (Nat.le_of_ble_eq_true rfl) dX8_row_27 ⟨Nat.zero_le _, Nat.zero_le _⟩ [(h_t, .inr (7, [.ref h_t_desk, .ref h_t_imageDesk, .ref h_t_deeds, .ref h_t_numbers, .ref h_t_tape, .ref h_t_reader, .ref h_t_speller, .ref h_t_holders, .int t_imageKept])), (h_t_holders, .inl (cH, 6, .inr (.inr (.inr (.inr (fun i => some (d_t_holders i))))))), ((d_t_holders 0), .inr (2, [.int ((va_up t_holders_sort 1 (x4.2.1)) 0), .long (t_holders_tree 0), .int (t_holders_limit 0), .ref (q_t_holders 0), .long (t_holders_above 0), .int ((va_up t_holders_size 1 (x4.2.2)) 0)])), ((q_t_holders 0), .inl (cI, 20, .inl ((va_up a_t_holders 1 (x4.1)) 0))), ((d_t_holders 1), .inr (2, [.int ((va_up t_holders_sort 1 (x4.2.1)) 1), .long (t_holders_tree 1), .int (t_holders_limit 1), .ref (q_t_holders 1), .long (t_holders_above 1), .int ((va_up t_holders_size 1 (x4.2.2)) 1)])), ((q_t_holders 1), .inl (cI, 20, .inl ((va_up a_t_holders 1 (x4.1)) 1))), ((d_t_holders 2), .inr (2, [.int ((va_up t_holders_sort 1 (x4.2.1)) 2), .long (t_holders_tree 2), .int (t_holders_limit 2), .ref (q_t_holders 2), .long (t_holders_above 2), .int ((va_up t_holders_size 1 (x4.2.2)) 2)])), ((q_t_holders 2), .inl (cI, 20, .inl ((va_up a_t_holders 1 (x4.1)) 2))), ((d_t_holders 3), .inr (2, [.int ((va_up t_holders_sort 1 (x4.2.1)) 3), .long (t_holders_tree 3), .int (t_holders_limit 3), .ref (q_t_holders 3), .long (t_holders_above 3), .int ((va_up t_holders_size 1 (x4.2.2)) 3)])), ((q_t_holders 3), .inl (cI, 20, .inl ((va_up a_t_holders 1 (x4.1)) 3))), ((d_t_holders 4), .inr (2, [.int ((va_up t_holders_sort 1 (x4.2.1)) 4), .long (t_holders_tree 4), .int (t_holders_limit 4), .ref (q_t_holders 4), .long (t_holders_above 4), .int ((va_up t_holders_size 1 (x4.2.2)) 4)])), ((q_t_holders 4), .inl (cI, 20, .inl ((va_up a_t_holders 1 (x4.1)) 4))), ((d_t_holders 5), .inr (2, [.int ((va_up t_holders_sort 1 (x4.2.1)) 5), .long (t_holders_tree 5), .int (t_holders_limit 5), .ref (q_t_holders 5), .long (t_holders_above 5), .int ((va_up t_holders_size 1 (x4.2.2)) 5)])), ((q_t_holders 5), .inl (cI, 20, .inl ((va_up a_t_holders 1 (x4.1)) 5)))] [0, 1, 2, 3, 6, 7, 8, 9, 10, 11, 12, 13] 14 rfl rfl rfl (by decide +kernel) rfl (fun hp4 H locs hP hD hS => ?_)
    refine lv_iload_n hx hb dX8_row_30 rfl (lv_at hl 3 rfl) ?_
    cases h
    exact k_iret hx hb hr hlocks hP hS rfl dX8_row_31
  · refine k_VqU (n := 1) (As := [.int p0]) (rest := []) hx hb hml hown hts (c_X8_holderAt l G cI cJ cD cH s.heap.size h_t h_t_holders h_t_desk h_t_imageDesk h_t_deeds h_t_numbers h_t_tape h_t_reader h_t_speller d_t_holders q_t_holders a_t_holders t_holders_sort t_holders_tree t_holders_limit t_holders_above t_holders_size t_imageKept p0 2 hx1) gX8_row_X8_holderAt rfl rfl rfl (by decide +kernel) ⟨by first | exact Nat.le_of_ble_eq_true rfl | (simp only [headSpec]; omega), by first | exact Nat.le_of_ble_eq_true rfl | (simp only [headSpec]; omega)⟩ hK hP hD hS hA [0, 1, 2, 3, 4, 5, 6, 7, 8, 9, 10, 11, 12, 13] (by decide) rfl (ci := 7) rfl rfl rfl rfl rfl hl.1 (Nat.le_of_ble_eq_true rfl) dX8_row_2 ⟨Nat.zero_le _, Nat.zero_le _⟩ (fun hp1 H locs hP hS => ?_)
    refine W.eq (g2 := F0 m 5 ls [.ref (d_t_holders 2)]) rfl ?_
    have h := it_n h (by decide)
    refine lv_astore_n (lv' := [(3, .ref (d_t_holders 2)), (0, .ref h_t), (1, .int p0), (2, .int p1)]) hx hb dX8_row_5 rfl hl (by decide) rfl (fun ls hl => ?_)
    refine lv_aload_n hx hb dX8_row_6 rfl (lv_at hl 0 rfl) ?_
    refine lv_ifnull hx hb dX8_row_7 ?_
    refine lv_iload_n hx hb dX8_row_10 rfl (lv_at hl 3 rfl) ?_
    refine lv_bipush (v := (20 : Int32)) hx hb dX8_row_11 (by decide) ?_
    refine lv_icmp_le (tgt := 18) hx hb dX8_row_13 (by decide) (fun c2 => ?_) (fun c2 => ?_)
    rotate_left
    · have h := it_n h c2
      refine lv_iconst (v := (-1 : Int32)) hx hb dX8_row_16 (by decide) ?_
      cases h
      exact k_iret hx hb hr hlocks hP hS rfl dX8_row_17
    have h := it_p h c2
    refine lv_iload_n hx hb dX8_row_18 rfl (lv_at hl 3 rfl) ?_
    refine lv_if_ge (tgt := 25) hx hb dX8_row_19 (by decide) (fun c3 => ?_) (fun c3 => ?_)
    rotate_left
    · have h := it_n h c3
      refine lv_bipush (v := (-14 : Int32)) hx hb dX8_row_22 (by decide) ?_
      cases h
      exact k_iret hx hb hr hlocks hP hS rfl dX8_row_24
    have h := it_p h c3
    refine lv_aload_n hx hb dX8_row_25 rfl (lv_at hl 0 rfl) ?_
    refine lv_iload_n hx hb dX8_row_26 rfl (lv_at hl 3 rfl) ?_
    obtain ⟨x4, hx4, h⟩ := bd_e h
    try dsimp only at h
    refine k_Vv (n := 1) (As := [.int p1]) (rest := []) hx hb hml hown hts (c_X2_holdRow l G cI cJ cD cH H.size (d_t_holders 2) (q_t_holders 2) (t_holders_sort 2) (t_holders_tree 2) (t_holders_limit 2) (t_holders_above 2) (t_holders_size 2) (a_t_holders 2) p1 (x4.1) (x4.2.1) (x4.2.2) hx4) gX8_row_X2_holdRow rfl rfl rfl (by decide +kernel) ⟨by first | exact Nat.le_of_ble_eq_true rfl | (simp only [headSpec]; omega), by first | exact Nat.le_of_ble_eq_true rfl | (simp only [headSpec]; omega)⟩ hK hP hD hS hA [6, 7] (by decide) rfl rfl (ci := 2) rfl rfl rfl rfl rfl hl.1 (Nat.le_of_ble_eq_true rfl) dX8_row_27 ⟨Nat.zero_le _, Nat.zero_le _⟩ [(h_t, .inr (7, [.ref h_t_desk, .ref h_t_imageDesk, .ref h_t_deeds, .ref h_t_numbers, .ref h_t_tape, .ref h_t_reader, .ref h_t_speller, .ref h_t_holders, .int t_imageKept])), (h_t_holders, .inl (cH, 6, .inr (.inr (.inr (.inr (fun i => some (d_t_holders i))))))), ((d_t_holders 0), .inr (2, [.int ((va_up t_holders_sort 2 (x4.2.1)) 0), .long (t_holders_tree 0), .int (t_holders_limit 0), .ref (q_t_holders 0), .long (t_holders_above 0), .int ((va_up t_holders_size 2 (x4.2.2)) 0)])), ((q_t_holders 0), .inl (cI, 20, .inl ((va_up a_t_holders 2 (x4.1)) 0))), ((d_t_holders 1), .inr (2, [.int ((va_up t_holders_sort 2 (x4.2.1)) 1), .long (t_holders_tree 1), .int (t_holders_limit 1), .ref (q_t_holders 1), .long (t_holders_above 1), .int ((va_up t_holders_size 2 (x4.2.2)) 1)])), ((q_t_holders 1), .inl (cI, 20, .inl ((va_up a_t_holders 2 (x4.1)) 1))), ((d_t_holders 2), .inr (2, [.int ((va_up t_holders_sort 2 (x4.2.1)) 2), .long (t_holders_tree 2), .int (t_holders_limit 2), .ref (q_t_holders 2), .long (t_holders_above 2), .int ((va_up t_holders_size 2 (x4.2.2)) 2)])), ((q_t_holders 2), .inl (cI, 20, .inl ((va_up a_t_holders 2 (x4.1)) 2))), ((d_t_holders 3), .inr (2, [.int ((va_up t_holders_sort 2 (x4.2.1)) 3), .long (t_holders_tree 3), .int (t_holders_limit 3), .ref (q_t_holders 3), .long (t_holders_above 3), .int ((va_up t_holders_size 2 (x4.2.2)) 3)])), ((q_t_holders 3), .inl (cI, 20, .inl ((va_up a_t_holders 2 (x4.1)) 3))), ((d_t_holders 4), .inr (2, [.int ((va_up t_holders_sort 2 (x4.2.1)) 4), .long (t_holders_tree 4), .int (t_holders_limit 4), .ref (q_t_holders 4), .long (t_holders_above 4), .int ((va_up t_holders_size 2 (x4.2.2)) 4)])), ((q_t_holders 4), .inl (cI, 20, .inl ((va_up a_t_holders 2 (x4.1)) 4))), ((d_t_holders 5), .inr (2, [.int ((va_up t_holders_sort 2 (x4.2.1)) 5), .long (t_holders_tree 5), .int (t_holders_limit 5), .ref (q_t_holders 5), .long (t_holders_above 5), .int ((va_up t_holders_size 2 (x4.2.2)) 5)])), ((q_t_holders 5), .inl (cI, 20, .inl ((va_up a_t_holders 2 (x4.1)) 5)))] [0, 1, 2, 3, 4, 5, 8, 9, 10, 11, 12, 13] 14 rfl rfl rfl (by decide +kernel) rfl (fun hp4 H locs hP hD hS => ?_)
    refine lv_iload_n hx hb dX8_row_30 rfl (lv_at hl 3 rfl) ?_
    cases h
    exact k_iret hx hb hr hlocks hP hS rfl dX8_row_31
  · refine k_VqU (n := 1) (As := [.int p0]) (rest := []) hx hb hml hown hts (c_X8_holderAt l G cI cJ cD cH s.heap.size h_t h_t_holders h_t_desk h_t_imageDesk h_t_deeds h_t_numbers h_t_tape h_t_reader h_t_speller d_t_holders q_t_holders a_t_holders t_holders_sort t_holders_tree t_holders_limit t_holders_above t_holders_size t_imageKept p0 3 hx1) gX8_row_X8_holderAt rfl rfl rfl (by decide +kernel) ⟨by first | exact Nat.le_of_ble_eq_true rfl | (simp only [headSpec]; omega), by first | exact Nat.le_of_ble_eq_true rfl | (simp only [headSpec]; omega)⟩ hK hP hD hS hA [0, 1, 2, 3, 4, 5, 6, 7, 8, 9, 10, 11, 12, 13] (by decide) rfl (ci := 7) rfl rfl rfl rfl rfl hl.1 (Nat.le_of_ble_eq_true rfl) dX8_row_2 ⟨Nat.zero_le _, Nat.zero_le _⟩ (fun hp1 H locs hP hS => ?_)
    refine W.eq (g2 := F0 m 5 ls [.ref (d_t_holders 3)]) rfl ?_
    have h := it_n h (by decide)
    refine lv_astore_n (lv' := [(3, .ref (d_t_holders 3)), (0, .ref h_t), (1, .int p0), (2, .int p1)]) hx hb dX8_row_5 rfl hl (by decide) rfl (fun ls hl => ?_)
    refine lv_aload_n hx hb dX8_row_6 rfl (lv_at hl 0 rfl) ?_
    refine lv_ifnull hx hb dX8_row_7 ?_
    refine lv_iload_n hx hb dX8_row_10 rfl (lv_at hl 3 rfl) ?_
    refine lv_bipush (v := (20 : Int32)) hx hb dX8_row_11 (by decide) ?_
    refine lv_icmp_le (tgt := 18) hx hb dX8_row_13 (by decide) (fun c2 => ?_) (fun c2 => ?_)
    rotate_left
    · have h := it_n h c2
      refine lv_iconst (v := (-1 : Int32)) hx hb dX8_row_16 (by decide) ?_
      cases h
      exact k_iret hx hb hr hlocks hP hS rfl dX8_row_17
    have h := it_p h c2
    refine lv_iload_n hx hb dX8_row_18 rfl (lv_at hl 3 rfl) ?_
    refine lv_if_ge (tgt := 25) hx hb dX8_row_19 (by decide) (fun c3 => ?_) (fun c3 => ?_)
    rotate_left
    · have h := it_n h c3
      refine lv_bipush (v := (-14 : Int32)) hx hb dX8_row_22 (by decide) ?_
      cases h
      exact k_iret hx hb hr hlocks hP hS rfl dX8_row_24
    have h := it_p h c3
    refine lv_aload_n hx hb dX8_row_25 rfl (lv_at hl 0 rfl) ?_
    refine lv_iload_n hx hb dX8_row_26 rfl (lv_at hl 3 rfl) ?_
    obtain ⟨x4, hx4, h⟩ := bd_e h
    try dsimp only at h
    refine k_Vv (n := 1) (As := [.int p1]) (rest := []) hx hb hml hown hts (c_X2_holdRow l G cI cJ cD cH H.size (d_t_holders 3) (q_t_holders 3) (t_holders_sort 3) (t_holders_tree 3) (t_holders_limit 3) (t_holders_above 3) (t_holders_size 3) (a_t_holders 3) p1 (x4.1) (x4.2.1) (x4.2.2) hx4) gX8_row_X2_holdRow rfl rfl rfl (by decide +kernel) ⟨by first | exact Nat.le_of_ble_eq_true rfl | (simp only [headSpec]; omega), by first | exact Nat.le_of_ble_eq_true rfl | (simp only [headSpec]; omega)⟩ hK hP hD hS hA [8, 9] (by decide) rfl rfl (ci := 2) rfl rfl rfl rfl rfl hl.1 (Nat.le_of_ble_eq_true rfl) dX8_row_27 ⟨Nat.zero_le _, Nat.zero_le _⟩ [(h_t, .inr (7, [.ref h_t_desk, .ref h_t_imageDesk, .ref h_t_deeds, .ref h_t_numbers, .ref h_t_tape, .ref h_t_reader, .ref h_t_speller, .ref h_t_holders, .int t_imageKept])), (h_t_holders, .inl (cH, 6, .inr (.inr (.inr (.inr (fun i => some (d_t_holders i))))))), ((d_t_holders 0), .inr (2, [.int ((va_up t_holders_sort 3 (x4.2.1)) 0), .long (t_holders_tree 0), .int (t_holders_limit 0), .ref (q_t_holders 0), .long (t_holders_above 0), .int ((va_up t_holders_size 3 (x4.2.2)) 0)])), ((q_t_holders 0), .inl (cI, 20, .inl ((va_up a_t_holders 3 (x4.1)) 0))), ((d_t_holders 1), .inr (2, [.int ((va_up t_holders_sort 3 (x4.2.1)) 1), .long (t_holders_tree 1), .int (t_holders_limit 1), .ref (q_t_holders 1), .long (t_holders_above 1), .int ((va_up t_holders_size 3 (x4.2.2)) 1)])), ((q_t_holders 1), .inl (cI, 20, .inl ((va_up a_t_holders 3 (x4.1)) 1))), ((d_t_holders 2), .inr (2, [.int ((va_up t_holders_sort 3 (x4.2.1)) 2), .long (t_holders_tree 2), .int (t_holders_limit 2), .ref (q_t_holders 2), .long (t_holders_above 2), .int ((va_up t_holders_size 3 (x4.2.2)) 2)])), ((q_t_holders 2), .inl (cI, 20, .inl ((va_up a_t_holders 3 (x4.1)) 2))), ((d_t_holders 3), .inr (2, [.int ((va_up t_holders_sort 3 (x4.2.1)) 3), .long (t_holders_tree 3), .int (t_holders_limit 3), .ref (q_t_holders 3), .long (t_holders_above 3), .int ((va_up t_holders_size 3 (x4.2.2)) 3)])), ((q_t_holders 3), .inl (cI, 20, .inl ((va_up a_t_holders 3 (x4.1)) 3))), ((d_t_holders 4), .inr (2, [.int ((va_up t_holders_sort 3 (x4.2.1)) 4), .long (t_holders_tree 4), .int (t_holders_limit 4), .ref (q_t_holders 4), .long (t_holders_above 4), .int ((va_up t_holders_size 3 (x4.2.2)) 4)])), ((q_t_holders 4), .inl (cI, 20, .inl ((va_up a_t_holders 3 (x4.1)) 4))), ((d_t_holders 5), .inr (2, [.int ((va_up t_holders_sort 3 (x4.2.1)) 5), .long (t_holders_tree 5), .int (t_holders_limit 5), .ref (q_t_holders 5), .long (t_holders_above 5), .int ((va_up t_holders_size 3 (x4.2.2)) 5)])), ((q_t_holders 5), .inl (cI, 20, .inl ((va_up a_t_holders 3 (x4.1)) 5)))] [0, 1, 2, 3, 4, 5, 6, 7, 10, 11, 12, 13] 14 rfl rfl rfl (by decide +kernel) rfl (fun hp4 H locs hP hD hS => ?_)
    refine lv_iload_n hx hb dX8_row_30 rfl (lv_at hl 3 rfl) ?_
    cases h
    exact k_iret hx hb hr hlocks hP hS rfl dX8_row_31
  · refine k_VqU (n := 1) (As := [.int p0]) (rest := []) hx hb hml hown hts (c_X8_holderAt l G cI cJ cD cH s.heap.size h_t h_t_holders h_t_desk h_t_imageDesk h_t_deeds h_t_numbers h_t_tape h_t_reader h_t_speller d_t_holders q_t_holders a_t_holders t_holders_sort t_holders_tree t_holders_limit t_holders_above t_holders_size t_imageKept p0 4 hx1) gX8_row_X8_holderAt rfl rfl rfl (by decide +kernel) ⟨by first | exact Nat.le_of_ble_eq_true rfl | (simp only [headSpec]; omega), by first | exact Nat.le_of_ble_eq_true rfl | (simp only [headSpec]; omega)⟩ hK hP hD hS hA [0, 1, 2, 3, 4, 5, 6, 7, 8, 9, 10, 11, 12, 13] (by decide) rfl (ci := 7) rfl rfl rfl rfl rfl hl.1 (Nat.le_of_ble_eq_true rfl) dX8_row_2 ⟨Nat.zero_le _, Nat.zero_le _⟩ (fun hp1 H locs hP hS => ?_)
    refine W.eq (g2 := F0 m 5 ls [.ref (d_t_holders 4)]) rfl ?_
    have h := it_n h (by decide)
    refine lv_astore_n (lv' := [(3, .ref (d_t_holders 4)), (0, .ref h_t), (1, .int p0), (2, .int p1)]) hx hb dX8_row_5 rfl hl (by decide) rfl (fun ls hl => ?_)
    refine lv_aload_n hx hb dX8_row_6 rfl (lv_at hl 0 rfl) ?_
    refine lv_ifnull hx hb dX8_row_7 ?_
    refine lv_iload_n hx hb dX8_row_10 rfl (lv_at hl 3 rfl) ?_
    refine lv_bipush (v := (20 : Int32)) hx hb dX8_row_11 (by decide) ?_
    refine lv_icmp_le (tgt := 18) hx hb dX8_row_13 (by decide) (fun c2 => ?_) (fun c2 => ?_)
    rotate_left
    · have h := it_n h c2
      refine lv_iconst (v := (-1 : Int32)) hx hb dX8_row_16 (by decide) ?_
      cases h
      exact k_iret hx hb hr hlocks hP hS rfl dX8_row_17
    have h := it_p h c2
    refine lv_iload_n hx hb dX8_row_18 rfl (lv_at hl 3 rfl) ?_
    refine lv_if_ge (tgt := 25) hx hb dX8_row_19 (by decide) (fun c3 => ?_) (fun c3 => ?_)
    rotate_left
    · have h := it_n h c3
      refine lv_bipush (v := (-14 : Int32)) hx hb dX8_row_22 (by decide) ?_
      cases h
      exact k_iret hx hb hr hlocks hP hS rfl dX8_row_24
    have h := it_p h c3
    refine lv_aload_n hx hb dX8_row_25 rfl (lv_at hl 0 rfl) ?_
    refine lv_iload_n hx hb dX8_row_26 rfl (lv_at hl 3 rfl) ?_
    obtain ⟨x4, hx4, h⟩ := bd_e h
    try dsimp only at h
    refine k_Vv (n := 1) (As := [.int p1]) (rest := []) hx hb hml hown hts (c_X2_holdRow l G cI cJ cD cH H.size (d_t_holders 4) (q_t_holders 4) (t_holders_sort 4) (t_holders_tree 4) (t_holders_limit 4) (t_holders_above 4) (t_holders_size 4) (a_t_holders 4) p1 (x4.1) (x4.2.1) (x4.2.2) hx4) gX8_row_X2_holdRow rfl rfl rfl (by decide +kernel) ⟨by first | exact Nat.le_of_ble_eq_true rfl | (simp only [headSpec]; omega), by first | exact Nat.le_of_ble_eq_true rfl | (simp only [headSpec]; omega)⟩ hK hP hD hS hA [10, 11] (by decide) rfl rfl (ci := 2) rfl rfl rfl rfl rfl hl.1 (Nat.le_of_ble_eq_true rfl) dX8_row_27 ⟨Nat.zero_le _, Nat.zero_le _⟩ [(h_t, .inr (7, [.ref h_t_desk, .ref h_t_imageDesk, .ref h_t_deeds, .ref h_t_numbers, .ref h_t_tape, .ref h_t_reader, .ref h_t_speller, .ref h_t_holders, .int t_imageKept])), (h_t_holders, .inl (cH, 6, .inr (.inr (.inr (.inr (fun i => some (d_t_holders i))))))), ((d_t_holders 0), .inr (2, [.int ((va_up t_holders_sort 4 (x4.2.1)) 0), .long (t_holders_tree 0), .int (t_holders_limit 0), .ref (q_t_holders 0), .long (t_holders_above 0), .int ((va_up t_holders_size 4 (x4.2.2)) 0)])), ((q_t_holders 0), .inl (cI, 20, .inl ((va_up a_t_holders 4 (x4.1)) 0))), ((d_t_holders 1), .inr (2, [.int ((va_up t_holders_sort 4 (x4.2.1)) 1), .long (t_holders_tree 1), .int (t_holders_limit 1), .ref (q_t_holders 1), .long (t_holders_above 1), .int ((va_up t_holders_size 4 (x4.2.2)) 1)])), ((q_t_holders 1), .inl (cI, 20, .inl ((va_up a_t_holders 4 (x4.1)) 1))), ((d_t_holders 2), .inr (2, [.int ((va_up t_holders_sort 4 (x4.2.1)) 2), .long (t_holders_tree 2), .int (t_holders_limit 2), .ref (q_t_holders 2), .long (t_holders_above 2), .int ((va_up t_holders_size 4 (x4.2.2)) 2)])), ((q_t_holders 2), .inl (cI, 20, .inl ((va_up a_t_holders 4 (x4.1)) 2))), ((d_t_holders 3), .inr (2, [.int ((va_up t_holders_sort 4 (x4.2.1)) 3), .long (t_holders_tree 3), .int (t_holders_limit 3), .ref (q_t_holders 3), .long (t_holders_above 3), .int ((va_up t_holders_size 4 (x4.2.2)) 3)])), ((q_t_holders 3), .inl (cI, 20, .inl ((va_up a_t_holders 4 (x4.1)) 3))), ((d_t_holders 4), .inr (2, [.int ((va_up t_holders_sort 4 (x4.2.1)) 4), .long (t_holders_tree 4), .int (t_holders_limit 4), .ref (q_t_holders 4), .long (t_holders_above 4), .int ((va_up t_holders_size 4 (x4.2.2)) 4)])), ((q_t_holders 4), .inl (cI, 20, .inl ((va_up a_t_holders 4 (x4.1)) 4))), ((d_t_holders 5), .inr (2, [.int ((va_up t_holders_sort 4 (x4.2.1)) 5), .long (t_holders_tree 5), .int (t_holders_limit 5), .ref (q_t_holders 5), .long (t_holders_above 5), .int ((va_up t_holders_size 4 (x4.2.2)) 5)])), ((q_t_holders 5), .inl (cI, 20, .inl ((va_up a_t_holders 4 (x4.1)) 5)))] [0, 1, 2, 3, 4, 5, 6, 7, 8, 9, 12, 13] 14 rfl rfl rfl (by decide +kernel) rfl (fun hp4 H locs hP hD hS => ?_)
    refine lv_iload_n hx hb dX8_row_30 rfl (lv_at hl 3 rfl) ?_
    cases h
    exact k_iret hx hb hr hlocks hP hS rfl dX8_row_31
  · refine k_VqU (n := 1) (As := [.int p0]) (rest := []) hx hb hml hown hts (c_X8_holderAt l G cI cJ cD cH s.heap.size h_t h_t_holders h_t_desk h_t_imageDesk h_t_deeds h_t_numbers h_t_tape h_t_reader h_t_speller d_t_holders q_t_holders a_t_holders t_holders_sort t_holders_tree t_holders_limit t_holders_above t_holders_size t_imageKept p0 5 hx1) gX8_row_X8_holderAt rfl rfl rfl (by decide +kernel) ⟨by first | exact Nat.le_of_ble_eq_true rfl | (simp only [headSpec]; omega), by first | exact Nat.le_of_ble_eq_true rfl | (simp only [headSpec]; omega)⟩ hK hP hD hS hA [0, 1, 2, 3, 4, 5, 6, 7, 8, 9, 10, 11, 12, 13] (by decide) rfl (ci := 7) rfl rfl rfl rfl rfl hl.1 (Nat.le_of_ble_eq_true rfl) dX8_row_2 ⟨Nat.zero_le _, Nat.zero_le _⟩ (fun hp1 H locs hP hS => ?_)
    refine W.eq (g2 := F0 m 5 ls [.ref (d_t_holders 5)]) rfl ?_
    have h := it_n h (by decide)
    refine lv_astore_n (lv' := [(3, .ref (d_t_holders 5)), (0, .ref h_t), (1, .int p0), (2, .int p1)]) hx hb dX8_row_5 rfl hl (by decide) rfl (fun ls hl => ?_)
    refine lv_aload_n hx hb dX8_row_6 rfl (lv_at hl 0 rfl) ?_
    refine lv_ifnull hx hb dX8_row_7 ?_
    refine lv_iload_n hx hb dX8_row_10 rfl (lv_at hl 3 rfl) ?_
    refine lv_bipush (v := (20 : Int32)) hx hb dX8_row_11 (by decide) ?_
    refine lv_icmp_le (tgt := 18) hx hb dX8_row_13 (by decide) (fun c2 => ?_) (fun c2 => ?_)
    rotate_left
    · have h := it_n h c2
      refine lv_iconst (v := (-1 : Int32)) hx hb dX8_row_16 (by decide) ?_
      cases h
      exact k_iret hx hb hr hlocks hP hS rfl dX8_row_17
    have h := it_p h c2
    refine lv_iload_n hx hb dX8_row_18 rfl (lv_at hl 3 rfl) ?_
    refine lv_if_ge (tgt := 25) hx hb dX8_row_19 (by decide) (fun c3 => ?_) (fun c3 => ?_)
    rotate_left
    · have h := it_n h c3
      refine lv_bipush (v := (-14 : Int32)) hx hb dX8_row_22 (by decide) ?_
      cases h
      exact k_iret hx hb hr hlocks hP hS rfl dX8_row_24
    have h := it_p h c3
    refine lv_aload_n hx hb dX8_row_25 rfl (lv_at hl 0 rfl) ?_
    refine lv_iload_n hx hb dX8_row_26 rfl (lv_at hl 3 rfl) ?_
    obtain ⟨x4, hx4, h⟩ := bd_e h
    try dsimp only at h
    refine k_Vv (n := 1) (As := [.int p1]) (rest := []) hx hb hml hown hts (c_X2_holdRow l G cI cJ cD cH H.size (d_t_holders 5) (q_t_holders 5) (t_holders_sort 5) (t_holders_tree 5) (t_holders_limit 5) (t_holders_above 5) (t_holders_size 5) (a_t_holders 5) p1 (x4.1) (x4.2.1) (x4.2.2) hx4) gX8_row_X2_holdRow rfl rfl rfl (by decide +kernel) ⟨by first | exact Nat.le_of_ble_eq_true rfl | (simp only [headSpec]; omega), by first | exact Nat.le_of_ble_eq_true rfl | (simp only [headSpec]; omega)⟩ hK hP hD hS hA [12, 13] (by decide) rfl rfl (ci := 2) rfl rfl rfl rfl rfl hl.1 (Nat.le_of_ble_eq_true rfl) dX8_row_27 ⟨Nat.zero_le _, Nat.zero_le _⟩ [(h_t, .inr (7, [.ref h_t_desk, .ref h_t_imageDesk, .ref h_t_deeds, .ref h_t_numbers, .ref h_t_tape, .ref h_t_reader, .ref h_t_speller, .ref h_t_holders, .int t_imageKept])), (h_t_holders, .inl (cH, 6, .inr (.inr (.inr (.inr (fun i => some (d_t_holders i))))))), ((d_t_holders 0), .inr (2, [.int ((va_up t_holders_sort 5 (x4.2.1)) 0), .long (t_holders_tree 0), .int (t_holders_limit 0), .ref (q_t_holders 0), .long (t_holders_above 0), .int ((va_up t_holders_size 5 (x4.2.2)) 0)])), ((q_t_holders 0), .inl (cI, 20, .inl ((va_up a_t_holders 5 (x4.1)) 0))), ((d_t_holders 1), .inr (2, [.int ((va_up t_holders_sort 5 (x4.2.1)) 1), .long (t_holders_tree 1), .int (t_holders_limit 1), .ref (q_t_holders 1), .long (t_holders_above 1), .int ((va_up t_holders_size 5 (x4.2.2)) 1)])), ((q_t_holders 1), .inl (cI, 20, .inl ((va_up a_t_holders 5 (x4.1)) 1))), ((d_t_holders 2), .inr (2, [.int ((va_up t_holders_sort 5 (x4.2.1)) 2), .long (t_holders_tree 2), .int (t_holders_limit 2), .ref (q_t_holders 2), .long (t_holders_above 2), .int ((va_up t_holders_size 5 (x4.2.2)) 2)])), ((q_t_holders 2), .inl (cI, 20, .inl ((va_up a_t_holders 5 (x4.1)) 2))), ((d_t_holders 3), .inr (2, [.int ((va_up t_holders_sort 5 (x4.2.1)) 3), .long (t_holders_tree 3), .int (t_holders_limit 3), .ref (q_t_holders 3), .long (t_holders_above 3), .int ((va_up t_holders_size 5 (x4.2.2)) 3)])), ((q_t_holders 3), .inl (cI, 20, .inl ((va_up a_t_holders 5 (x4.1)) 3))), ((d_t_holders 4), .inr (2, [.int ((va_up t_holders_sort 5 (x4.2.1)) 4), .long (t_holders_tree 4), .int (t_holders_limit 4), .ref (q_t_holders 4), .long (t_holders_above 4), .int ((va_up t_holders_size 5 (x4.2.2)) 4)])), ((q_t_holders 4), .inl (cI, 20, .inl ((va_up a_t_holders 5 (x4.1)) 4))), ((d_t_holders 5), .inr (2, [.int ((va_up t_holders_sort 5 (x4.2.1)) 5), .long (t_holders_tree 5), .int (t_holders_limit 5), .ref (q_t_holders 5), .long (t_holders_above 5), .int ((va_up t_holders_size 5 (x4.2.2)) 5)])), ((q_t_holders 5), .inl (cI, 20, .inl ((va_up a_t_holders 5 (x4.1)) 5)))] [0, 1, 2, 3, 4, 5, 6, 7, 8, 9, 10, 11] 14 rfl rfl rfl (by decide +kernel) rfl (fun hp4 H locs hP hD hS => ?_)
    refine lv_iload_n hx hb dX8_row_30 rfl (lv_at hl 3 rfl) ?_
    cases h
    exact k_iret hx hb hr hlocks hP hS rfl dX8_row_31
  · refine k_VqU (n := 1) (As := [.int p0]) (rest := []) hx hb hml hown hts (c_X8_holderAt l G cI cJ cD cH s.heap.size h_t h_t_holders h_t_desk h_t_imageDesk h_t_deeds h_t_numbers h_t_tape h_t_reader h_t_speller d_t_holders q_t_holders a_t_holders t_holders_sort t_holders_tree t_holders_limit t_holders_above t_holders_size t_imageKept p0 6 hx1) gX8_row_X8_holderAt rfl rfl rfl (by decide +kernel) ⟨by first | exact Nat.le_of_ble_eq_true rfl | (simp only [headSpec]; omega), by first | exact Nat.le_of_ble_eq_true rfl | (simp only [headSpec]; omega)⟩ hK hP hD hS hA [0, 1, 2, 3, 4, 5, 6, 7, 8, 9, 10, 11, 12, 13] (by decide) rfl (ci := 7) rfl rfl rfl rfl rfl hl.1 (Nat.le_of_ble_eq_true rfl) dX8_row_2 ⟨Nat.zero_le _, Nat.zero_le _⟩ (fun hp1 H locs hP hS => ?_)
    refine W.eq (g2 := F0 m 5 ls [.null]) rfl ?_
    have h := it_p h rfl
    refine lv_astore_nN (lv' := [(3, .null), (0, .ref h_t), (1, .int p0), (2, .int p1)]) hx hb dX8_row_5 rfl hl (by decide) rfl (fun ls hl => ?_)
    refine lv_aload_nN hx hb dX8_row_6 rfl (lv_at hl 0 rfl) ?_
    refine lv_ifnullN (tgt := 16) hx hb dX8_row_7 (by decide) ?_
    refine lv_iconst (v := (-1 : Int32)) hx hb dX8_row_16 (by decide) ?_
    cases h
    exact k_iret hx hb hr hlocks hP hS rfl dX8_row_17

/-! X8_set -/
noncomputable def F_X8_set (a_t_holders : Nat → Nat → Int32) (t_holders_sort : Nat → Int32) (t_holders_size : Nat → Int32) (p0 : Int32) (p1 : Int32) (p2 : Int32) : Option (Int32 × (Nat → Nat → Int32)) :=
  bd (F_X8_holderAt p0) (fun x1 => if x1 = 6 then (bd (F_X8_refusalOfN) (fun x7 => some (x7, a_t_holders))) else (bd (F_X8_refusalOf (t_holders_sort x1) (3 : Int32)) (fun x2 => if x2 = 0 then (bd (F_X2_hasPlace (t_holders_size x1) p1) (fun x4 => if x4 = 0 then (some ((-13 : Int32), a_t_holders)) else (ck p1 20 (some ((1 : Int32), (va_up a_t_holders x1 (upd (a_t_holders x1) p1.toNatClampNeg p2))))))) else (some (x2, a_t_holders)))))
theorem in_X8_set_X2 : ∀ w ∈ wsX20, w ∈ wsX8_set := mem_r _ [18, 19, 20, 21, 22, 23] (by decide +kernel)
set_option maxHeartbeats 40000000 in
set_option maxRecDepth 100000 in
theorem c_X8_set (l : Launch) (G : va_G) (cI cJ cD cH : ClassId) (sz : Nat) (h_t : Nat) (h_t_holders : Nat) (h_t_desk : Nat) (h_t_imageDesk : Nat) (h_t_deeds : Nat) (h_t_numbers : Nat) (h_t_tape : Nat) (h_t_reader : Nat) (h_t_speller : Nat) (d_t_holders : Nat → Nat) (q_t_holders : Nat → Nat) (a_t_holders : Nat → Nat → Int32) (t_holders_sort : Nat → Int32) (t_holders_tree : Nat → Int64) (t_holders_limit : Nat → Int32) (t_holders_above : Nat → Int64) (t_holders_size : Nat → Int32) (t_imageKept : Int32) (p0 : Int32) (p1 : Int32) (p2 : Int32) (r0 : Int32) (w0 : Nat → Nat → Int32) (hF : F_X8_set a_t_holders t_holders_sort t_holders_size p0 p1 p2 = some (r0, w0)) : Met l yX8_set wsX8_set ({ frames := 1, cells := 0, slots := 0, locals := 21 }) (k_pre G (k_T cI cJ cD cH) [(h_t, .inr (7, [.ref h_t_desk, .ref h_t_imageDesk, .ref h_t_deeds, .ref h_t_numbers, .ref h_t_tape, .ref h_t_reader, .ref h_t_speller, .ref h_t_holders, .int t_imageKept])), (h_t_holders, .inl (cH, 6, .inr (.inr (.inr (.inr (fun i => some (d_t_holders i))))))), ((d_t_holders 0), .inr (2, [.int (t_holders_sort 0), .long (t_holders_tree 0), .int (t_holders_limit 0), .ref (q_t_holders 0), .long (t_holders_above 0), .int (t_holders_size 0)])), ((q_t_holders 0), .inl (cI, 20, .inl (a_t_holders 0))), ((d_t_holders 1), .inr (2, [.int (t_holders_sort 1), .long (t_holders_tree 1), .int (t_holders_limit 1), .ref (q_t_holders 1), .long (t_holders_above 1), .int (t_holders_size 1)])), ((q_t_holders 1), .inl (cI, 20, .inl (a_t_holders 1))), ((d_t_holders 2), .inr (2, [.int (t_holders_sort 2), .long (t_holders_tree 2), .int (t_holders_limit 2), .ref (q_t_holders 2), .long (t_holders_above 2), .int (t_holders_size 2)])), ((q_t_holders 2), .inl (cI, 20, .inl (a_t_holders 2))), ((d_t_holders 3), .inr (2, [.int (t_holders_sort 3), .long (t_holders_tree 3), .int (t_holders_limit 3), .ref (q_t_holders 3), .long (t_holders_above 3), .int (t_holders_size 3)])), ((q_t_holders 3), .inl (cI, 20, .inl (a_t_holders 3))), ((d_t_holders 4), .inr (2, [.int (t_holders_sort 4), .long (t_holders_tree 4), .int (t_holders_limit 4), .ref (q_t_holders 4), .long (t_holders_above 4), .int (t_holders_size 4)])), ((q_t_holders 4), .inl (cI, 20, .inl (a_t_holders 4))), ((d_t_holders 5), .inr (2, [.int (t_holders_sort 5), .long (t_holders_tree 5), .int (t_holders_limit 5), .ref (q_t_holders 5), .long (t_holders_above 5), .int (t_holders_size 5)])), ((q_t_holders 5), .inl (cI, 20, .inl (a_t_holders 5)))] sz [.ref h_t, .int p0, .int p1, .int p2]) (va_Qi (fun r (_ : Unit) => r = r0 ∧ True) (fun _ t => va_P G vwCl [(h_t, .inr (7, [.ref h_t_desk, .ref h_t_imageDesk, .ref h_t_deeds, .ref h_t_numbers, .ref h_t_tape, .ref h_t_reader, .ref h_t_speller, .ref h_t_holders, .int t_imageKept])), (h_t_holders, .inl (cH, 6, .inr (.inr (.inr (.inr (fun i => some (d_t_holders i))))))), ((d_t_holders 0), .inr (2, [.int (t_holders_sort 0), .long (t_holders_tree 0), .int (t_holders_limit 0), .ref (q_t_holders 0), .long (t_holders_above 0), .int (t_holders_size 0)])), ((q_t_holders 0), .inl (cI, 20, .inl (w0 0))), ((d_t_holders 1), .inr (2, [.int (t_holders_sort 1), .long (t_holders_tree 1), .int (t_holders_limit 1), .ref (q_t_holders 1), .long (t_holders_above 1), .int (t_holders_size 1)])), ((q_t_holders 1), .inl (cI, 20, .inl (w0 1))), ((d_t_holders 2), .inr (2, [.int (t_holders_sort 2), .long (t_holders_tree 2), .int (t_holders_limit 2), .ref (q_t_holders 2), .long (t_holders_above 2), .int (t_holders_size 2)])), ((q_t_holders 2), .inl (cI, 20, .inl (w0 2))), ((d_t_holders 3), .inr (2, [.int (t_holders_sort 3), .long (t_holders_tree 3), .int (t_holders_limit 3), .ref (q_t_holders 3), .long (t_holders_above 3), .int (t_holders_size 3)])), ((q_t_holders 3), .inl (cI, 20, .inl (w0 3))), ((d_t_holders 4), .inr (2, [.int (t_holders_sort 4), .long (t_holders_tree 4), .int (t_holders_limit 4), .ref (q_t_holders 4), .long (t_holders_above 4), .int (t_holders_size 4)])), ((q_t_holders 4), .inl (cI, 20, .inl (w0 4))), ((d_t_holders 5), .inr (2, [.int (t_holders_sort 5), .long (t_holders_tree 5), .int (t_holders_limit 5), .ref (q_t_holders 5), .long (t_holders_above 5), .int (t_holders_size 5)])), ((q_t_holders 5), .inl (cI, 20, .inl (w0 5)))] t.heap) (va_A [(h_t, .inr (7, [.ref h_t_desk, .ref h_t_imageDesk, .ref h_t_deeds, .ref h_t_numbers, .ref h_t_tape, .ref h_t_reader, .ref h_t_speller, .ref h_t_holders, .int t_imageKept])), (h_t_holders, .inl (cH, 6, .inr (.inr (.inr (.inr (fun i => some (d_t_holders i))))))), ((d_t_holders 0), .inr (2, [.int (t_holders_sort 0), .long (t_holders_tree 0), .int (t_holders_limit 0), .ref (q_t_holders 0), .long (t_holders_above 0), .int (t_holders_size 0)])), ((q_t_holders 0), .inl (cI, 20, .inl (a_t_holders 0))), ((d_t_holders 1), .inr (2, [.int (t_holders_sort 1), .long (t_holders_tree 1), .int (t_holders_limit 1), .ref (q_t_holders 1), .long (t_holders_above 1), .int (t_holders_size 1)])), ((q_t_holders 1), .inl (cI, 20, .inl (a_t_holders 1))), ((d_t_holders 2), .inr (2, [.int (t_holders_sort 2), .long (t_holders_tree 2), .int (t_holders_limit 2), .ref (q_t_holders 2), .long (t_holders_above 2), .int (t_holders_size 2)])), ((q_t_holders 2), .inl (cI, 20, .inl (a_t_holders 2))), ((d_t_holders 3), .inr (2, [.int (t_holders_sort 3), .long (t_holders_tree 3), .int (t_holders_limit 3), .ref (q_t_holders 3), .long (t_holders_above 3), .int (t_holders_size 3)])), ((q_t_holders 3), .inl (cI, 20, .inl (a_t_holders 3))), ((d_t_holders 4), .inr (2, [.int (t_holders_sort 4), .long (t_holders_tree 4), .int (t_holders_limit 4), .ref (q_t_holders 4), .long (t_holders_above 4), .int (t_holders_size 4)])), ((q_t_holders 4), .inl (cI, 20, .inl (a_t_holders 4))), ((d_t_holders 5), .inr (2, [.int (t_holders_sort 5), .long (t_holders_tree 5), .int (t_holders_limit 5), .ref (q_t_holders 5), .long (t_holders_above 5), .int (t_holders_size 5)])), ((q_t_holders 5), .inl (cI, 20, .inl (a_t_holders 5)))] sz)) 0 0 (va_A [(h_t, .inr (7, [.ref h_t_desk, .ref h_t_imageDesk, .ref h_t_deeds, .ref h_t_numbers, .ref h_t_tape, .ref h_t_reader, .ref h_t_speller, .ref h_t_holders, .int t_imageKept])), (h_t_holders, .inl (cH, 6, .inr (.inr (.inr (.inr (fun i => some (d_t_holders i))))))), ((d_t_holders 0), .inr (2, [.int (t_holders_sort 0), .long (t_holders_tree 0), .int (t_holders_limit 0), .ref (q_t_holders 0), .long (t_holders_above 0), .int (t_holders_size 0)])), ((q_t_holders 0), .inl (cI, 20, .inl (a_t_holders 0))), ((d_t_holders 1), .inr (2, [.int (t_holders_sort 1), .long (t_holders_tree 1), .int (t_holders_limit 1), .ref (q_t_holders 1), .long (t_holders_above 1), .int (t_holders_size 1)])), ((q_t_holders 1), .inl (cI, 20, .inl (a_t_holders 1))), ((d_t_holders 2), .inr (2, [.int (t_holders_sort 2), .long (t_holders_tree 2), .int (t_holders_limit 2), .ref (q_t_holders 2), .long (t_holders_above 2), .int (t_holders_size 2)])), ((q_t_holders 2), .inl (cI, 20, .inl (a_t_holders 2))), ((d_t_holders 3), .inr (2, [.int (t_holders_sort 3), .long (t_holders_tree 3), .int (t_holders_limit 3), .ref (q_t_holders 3), .long (t_holders_above 3), .int (t_holders_size 3)])), ((q_t_holders 3), .inl (cI, 20, .inl (a_t_holders 3))), ((d_t_holders 4), .inr (2, [.int (t_holders_sort 4), .long (t_holders_tree 4), .int (t_holders_limit 4), .ref (q_t_holders 4), .long (t_holders_above 4), .int (t_holders_size 4)])), ((q_t_holders 4), .inl (cI, 20, .inl (a_t_holders 4))), ((d_t_holders 5), .inr (2, [.int (t_holders_sort 5), .long (t_holders_tree 5), .int (t_holders_limit 5), .ref (q_t_holders 5), .long (t_holders_above 5), .int (t_holders_size 5)])), ((q_t_holders 5), .inl (cI, 20, .inl (a_t_holders 5)))] sz) := by
  refine Met.ofW (cc := cX8_set) (maxL := 6) (ret := (some .int)) (by decide) rfl ?_
  intro p e s m args below meth c s₁ B hml hv
  obtain ⟨rfl, hsz, hP, hK, hD0⟩ := hv
  have hx := B.exec
  have hb := B.bytes
  have hr := B.returns
  have hts := atoms_spec (ws := wsX8_set) B.pre
  have hown : s.vm.findClass RX8 = some m.cls := findClass_of_methodNamed B.named
  have hlocks := B.notSynchronized
  subst hsz
  have hD := hD0.self (sz := s.heap.size)
  generalize hAe : va_A [(h_t, .inr (7, [.ref h_t_desk, .ref h_t_imageDesk, .ref h_t_deeds, .ref h_t_numbers, .ref h_t_tape, .ref h_t_reader, .ref h_t_speller, .ref h_t_holders, .int t_imageKept])), (h_t_holders, .inl (cH, 6, .inr (.inr (.inr (.inr (fun i => some (d_t_holders i))))))), ((d_t_holders 0), .inr (2, [.int (t_holders_sort 0), .long (t_holders_tree 0), .int (t_holders_limit 0), .ref (q_t_holders 0), .long (t_holders_above 0), .int (t_holders_size 0)])), ((q_t_holders 0), .inl (cI, 20, .inl (a_t_holders 0))), ((d_t_holders 1), .inr (2, [.int (t_holders_sort 1), .long (t_holders_tree 1), .int (t_holders_limit 1), .ref (q_t_holders 1), .long (t_holders_above 1), .int (t_holders_size 1)])), ((q_t_holders 1), .inl (cI, 20, .inl (a_t_holders 1))), ((d_t_holders 2), .inr (2, [.int (t_holders_sort 2), .long (t_holders_tree 2), .int (t_holders_limit 2), .ref (q_t_holders 2), .long (t_holders_above 2), .int (t_holders_size 2)])), ((q_t_holders 2), .inl (cI, 20, .inl (a_t_holders 2))), ((d_t_holders 3), .inr (2, [.int (t_holders_sort 3), .long (t_holders_tree 3), .int (t_holders_limit 3), .ref (q_t_holders 3), .long (t_holders_above 3), .int (t_holders_size 3)])), ((q_t_holders 3), .inl (cI, 20, .inl (a_t_holders 3))), ((d_t_holders 4), .inr (2, [.int (t_holders_sort 4), .long (t_holders_tree 4), .int (t_holders_limit 4), .ref (q_t_holders 4), .long (t_holders_above 4), .int (t_holders_size 4)])), ((q_t_holders 4), .inl (cI, 20, .inl (a_t_holders 4))), ((d_t_holders 5), .inr (2, [.int (t_holders_sort 5), .long (t_holders_tree 5), .int (t_holders_limit 5), .ref (q_t_holders 5), .long (t_holders_above 5), .int (t_holders_size 5)])), ((q_t_holders 5), .inl (cI, 20, .inl (a_t_holders 5)))] s.heap.size = A at hD ⊢
  have hA : ∀ q : Nat, s.heap.size ≤ q → A q := fun q h => by rw [← hAe]; exact Or.inr h
  have hS : va_S A s.heap s.heap [] := va_S.rf
  have hl := lv_entry ([.ref h_t, .int p0, .int p1, .int p2]) (n := 6) (Nat.le_of_ble_eq_true rfl)
  rw [lg_entry_eq]
  generalize (lg_sl ([.ref h_t, .int p0, .int p1, .int p2]) ++ List.replicate (6 - (lg_sl ([.ref h_t, .int p0, .int p1, .int p2])).length) Slot.unset).toArray = ls at hl ⊢
  have hl : lv_has ls 6 [(0, .ref h_t), (1, .int p0), (2, .int p1), (3, .int p2)] := hl
  have hinX2 : ∀ w ∈ wsX20, w ∈ wsX8_set := in_X8_set_X2
  have h := hF
  unfold F_X8_set at h
  refine lv_aload_n hx hb dX8_set_0 rfl (lv_at hl 0 rfl) ?_
  refine lv_iload_n hx hb dX8_set_1 rfl (lv_at hl 1 rfl) ?_
  obtain ⟨x1, hx1, h⟩ := bd_e h
  try dsimp only at h
  have hb1 := k_lt_X8_holderAt hx1
  obtain rfl | rfl | rfl | rfl | rfl | rfl | rfl := k_lt7 hb1
  · refine k_VqU (n := 1) (As := [.int p0]) (rest := []) hx hb hml hown hts (c_X8_holderAt l G cI cJ cD cH s.heap.size h_t h_t_holders h_t_desk h_t_imageDesk h_t_deeds h_t_numbers h_t_tape h_t_reader h_t_speller d_t_holders q_t_holders a_t_holders t_holders_sort t_holders_tree t_holders_limit t_holders_above t_holders_size t_imageKept p0 0 hx1) gX8_set_X8_holderAt rfl rfl rfl (by decide +kernel) ⟨by first | exact Nat.le_of_ble_eq_true rfl | (simp only [headSpec]; omega), by first | exact Nat.le_of_ble_eq_true rfl | (simp only [headSpec]; omega)⟩ hK hP hD hS hA [0, 1, 2, 3, 4, 5, 6, 7, 8, 9, 10, 11, 12, 13] (by decide) rfl (ci := 7) rfl rfl rfl rfl rfl hl.1 (Nat.le_of_ble_eq_true rfl) dX8_set_2 ⟨Nat.zero_le _, Nat.zero_le _⟩ (fun hp1 H locs hP hS => ?_)
    refine W.eq (g2 := F0 m 5 ls [.ref (d_t_holders 0)]) rfl ?_
    have h := it_n h (by decide)
    refine lv_astore (lv' := [(4, .ref (d_t_holders 0)), (0, .ref h_t), (1, .int p0), (2, .int p1), (3, .int p2)]) hx hb dX8_set_5 hl (by decide) rfl (fun ls hl => ?_)
    refine lv_aload hx hb dX8_set_7 (lv_at hl 0 rfl) ?_
    refine lv_iconst (v := (3 : Int32)) hx hb dX8_set_9 (by decide) ?_
    obtain ⟨x2, hx2, h⟩ := bd_e h
    try dsimp only at h
    refine k_SiU (n := 2) (As := [.ref (d_t_holders 0), .int (3 : Int32)]) (rest := []) hx hb hml hown hts (c_X8_refusalOf l G cI cJ cD cH H.size (d_t_holders 0) (q_t_holders 0) (t_holders_sort 0) (t_holders_tree 0) (t_holders_limit 0) (t_holders_above 0) (t_holders_size 0) (3 : Int32) x2 hx2) gX8_set_X8_refusalOf rfl rfl rfl (by decide +kernel) ⟨by first | exact Nat.le_of_ble_eq_true rfl | (simp only [headSpec]; omega), by first | exact Nat.le_of_ble_eq_true rfl | (simp only [headSpec]; omega)⟩ hK hP hD hS hA [2] (by decide) rfl rfl rfl hl.1 (Nat.le_of_ble_eq_true rfl) dX8_set_10 ⟨Nat.zero_le _, Nat.zero_le _⟩ (fun hp2 H locs hP hS => ?_)
    refine lv_istore (lv' := [(5, .int x2), (4, .ref (d_t_holders 0)), (0, .ref h_t), (1, .int p0), (2, .int p1), (3, .int p2)]) hx hb dX8_set_13 hl (by decide) rfl (fun ls hl => ?_)
    refine lv_aload hx hb dX8_set_15 (lv_at hl 1 rfl) ?_
    refine lv_ifnull hx hb dX8_set_17 ?_
    refine lv_iload hx hb dX8_set_20 (lv_at hl 0 rfl) ?_
    refine lv_if_eq (tgt := 28) hx hb dX8_set_22 (by decide) (fun c3 => ?_) (fun c3 => ?_)
    rotate_left
    · have h := it_n h c3
      refine lv_iload hx hb dX8_set_25 (lv_at hl 0 rfl) ?_
      cases h
      exact k_iret hx hb hr hlocks hP hS rfl dX8_set_27
    have h := it_p h c3
    refine lv_aload hx hb dX8_set_28 (lv_at hl 1 rfl) ?_
    refine lv_iload_n hx hb dX8_set_30 rfl (lv_at hl 4 rfl) ?_
    obtain ⟨x4, hx4, h⟩ := bd_e h
    try dsimp only at h
    refine k_ViU (n := 1) (As := [.int p1]) (rest := []) hx hb hml hown hts (c_X2_hasPlace l G cI cJ cD cH H.size (d_t_holders 0) (q_t_holders 0) (t_holders_sort 0) (t_holders_tree 0) (t_holders_limit 0) (t_holders_above 0) (t_holders_size 0) p1 x4 hx4) gX8_set_X2_hasPlace rfl rfl rfl (by decide +kernel) ⟨by first | exact Nat.le_of_ble_eq_true rfl | (simp only [headSpec]; omega), by first | exact Nat.le_of_ble_eq_true rfl | (simp only [headSpec]; omega)⟩ hK hP hD hS hA [2] (by decide) rfl (ci := 2) rfl rfl rfl rfl rfl hl.1 (Nat.le_of_ble_eq_true rfl) dX8_set_31 ⟨Nat.zero_le _, Nat.zero_le _⟩ (fun hp4 H locs hP hS => ?_)
    refine lv_if_ne (tgt := 40) hx hb dX8_set_34 (by decide) (fun c5 => ?_) (fun c5 => ?_)
    rotate_left
    · have h := it_p h c5
      refine lv_bipush (v := (-13 : Int32)) hx hb dX8_set_37 (by decide) ?_
      cases h
      exact k_iret hx hb hr hlocks hP hS rfl dX8_set_39
    have h := it_n h c5
    refine lv_aload hx hb dX8_set_40 (lv_at hl 1 rfl) ?_
    refine va_get (D := G) (ci := 2) (v := .ref (q_t_holders 0)) (C := RX2) (T := TX2) (N := 6) hx hb hts hinX2 hown hK hP 2 rfl rfl 3 (by decide) (hts (.fieldLink RX8 288 "MarkedCurves$Holder" "ints" "[I") (List.mem_of_getElem? (i := 1) (by decide +kernel))) (fun _ h9 => h9) rfl dX8_set_42 ?_
    refine lv_iload_n hx hb dX8_set_45 rfl (lv_at hl 4 rfl) ?_
    refine lv_iload_n hx hb dX8_set_46 rfl (lv_at hl 5 rfl) ?_
    obtain ⟨hn6, h⟩ := ck_e h
    refine va_iast hx hb hK hP hD hS 3 0 rfl rfl hn6 dX8_set_47 (fun H locs hP hD hS => ?_)
    have hP : va_P G vwCl [(h_t, .inr (7, [.ref h_t_desk, .ref h_t_imageDesk, .ref h_t_deeds, .ref h_t_numbers, .ref h_t_tape, .ref h_t_reader, .ref h_t_speller, .ref h_t_holders, .int t_imageKept])), (h_t_holders, .inl (cH, 6, .inr (.inr (.inr (.inr (fun i => some (d_t_holders i))))))), ((d_t_holders 0), .inr (2, [.int (t_holders_sort 0), .long (t_holders_tree 0), .int (t_holders_limit 0), .ref (q_t_holders 0), .long (t_holders_above 0), .int (t_holders_size 0)])), ((q_t_holders 0), .inl (cI, 20, .inl ((va_up a_t_holders 0 (upd (a_t_holders 0) p1.toNatClampNeg p2)) 0))), ((d_t_holders 1), .inr (2, [.int (t_holders_sort 1), .long (t_holders_tree 1), .int (t_holders_limit 1), .ref (q_t_holders 1), .long (t_holders_above 1), .int (t_holders_size 1)])), ((q_t_holders 1), .inl (cI, 20, .inl ((va_up a_t_holders 0 (upd (a_t_holders 0) p1.toNatClampNeg p2)) 1))), ((d_t_holders 2), .inr (2, [.int (t_holders_sort 2), .long (t_holders_tree 2), .int (t_holders_limit 2), .ref (q_t_holders 2), .long (t_holders_above 2), .int (t_holders_size 2)])), ((q_t_holders 2), .inl (cI, 20, .inl ((va_up a_t_holders 0 (upd (a_t_holders 0) p1.toNatClampNeg p2)) 2))), ((d_t_holders 3), .inr (2, [.int (t_holders_sort 3), .long (t_holders_tree 3), .int (t_holders_limit 3), .ref (q_t_holders 3), .long (t_holders_above 3), .int (t_holders_size 3)])), ((q_t_holders 3), .inl (cI, 20, .inl ((va_up a_t_holders 0 (upd (a_t_holders 0) p1.toNatClampNeg p2)) 3))), ((d_t_holders 4), .inr (2, [.int (t_holders_sort 4), .long (t_holders_tree 4), .int (t_holders_limit 4), .ref (q_t_holders 4), .long (t_holders_above 4), .int (t_holders_size 4)])), ((q_t_holders 4), .inl (cI, 20, .inl ((va_up a_t_holders 0 (upd (a_t_holders 0) p1.toNatClampNeg p2)) 4))), ((d_t_holders 5), .inr (2, [.int (t_holders_sort 5), .long (t_holders_tree 5), .int (t_holders_limit 5), .ref (q_t_holders 5), .long (t_holders_above 5), .int (t_holders_size 5)])), ((q_t_holders 5), .inl (cI, 20, .inl ((va_up a_t_holders 0 (upd (a_t_holders 0) p1.toNatClampNeg p2)) 5)))] H := hP
    have hD : va_D A [(h_t, .inr (7, [.ref h_t_desk, .ref h_t_imageDesk, .ref h_t_deeds, .ref h_t_numbers, .ref h_t_tape, .ref h_t_reader, .ref h_t_speller, .ref h_t_holders, .int t_imageKept])), (h_t_holders, .inl (cH, 6, .inr (.inr (.inr (.inr (fun i => some (d_t_holders i))))))), ((d_t_holders 0), .inr (2, [.int (t_holders_sort 0), .long (t_holders_tree 0), .int (t_holders_limit 0), .ref (q_t_holders 0), .long (t_holders_above 0), .int (t_holders_size 0)])), ((q_t_holders 0), .inl (cI, 20, .inl ((va_up a_t_holders 0 (upd (a_t_holders 0) p1.toNatClampNeg p2)) 0))), ((d_t_holders 1), .inr (2, [.int (t_holders_sort 1), .long (t_holders_tree 1), .int (t_holders_limit 1), .ref (q_t_holders 1), .long (t_holders_above 1), .int (t_holders_size 1)])), ((q_t_holders 1), .inl (cI, 20, .inl ((va_up a_t_holders 0 (upd (a_t_holders 0) p1.toNatClampNeg p2)) 1))), ((d_t_holders 2), .inr (2, [.int (t_holders_sort 2), .long (t_holders_tree 2), .int (t_holders_limit 2), .ref (q_t_holders 2), .long (t_holders_above 2), .int (t_holders_size 2)])), ((q_t_holders 2), .inl (cI, 20, .inl ((va_up a_t_holders 0 (upd (a_t_holders 0) p1.toNatClampNeg p2)) 2))), ((d_t_holders 3), .inr (2, [.int (t_holders_sort 3), .long (t_holders_tree 3), .int (t_holders_limit 3), .ref (q_t_holders 3), .long (t_holders_above 3), .int (t_holders_size 3)])), ((q_t_holders 3), .inl (cI, 20, .inl ((va_up a_t_holders 0 (upd (a_t_holders 0) p1.toNatClampNeg p2)) 3))), ((d_t_holders 4), .inr (2, [.int (t_holders_sort 4), .long (t_holders_tree 4), .int (t_holders_limit 4), .ref (q_t_holders 4), .long (t_holders_above 4), .int (t_holders_size 4)])), ((q_t_holders 4), .inl (cI, 20, .inl ((va_up a_t_holders 0 (upd (a_t_holders 0) p1.toNatClampNeg p2)) 4))), ((d_t_holders 5), .inr (2, [.int (t_holders_sort 5), .long (t_holders_tree 5), .int (t_holders_limit 5), .ref (q_t_holders 5), .long (t_holders_above 5), .int (t_holders_size 5)])), ((q_t_holders 5), .inl (cI, 20, .inl ((va_up a_t_holders 0 (upd (a_t_holders 0) p1.toNatClampNeg p2)) 5)))] := hD
    refine lv_iconst (v := (1 : Int32)) hx hb dX8_set_48 (by decide) ?_
    cases h
    exact k_iret hx hb hr hlocks hP hS rfl dX8_set_49
  · refine k_VqU (n := 1) (As := [.int p0]) (rest := []) hx hb hml hown hts (c_X8_holderAt l G cI cJ cD cH s.heap.size h_t h_t_holders h_t_desk h_t_imageDesk h_t_deeds h_t_numbers h_t_tape h_t_reader h_t_speller d_t_holders q_t_holders a_t_holders t_holders_sort t_holders_tree t_holders_limit t_holders_above t_holders_size t_imageKept p0 1 hx1) gX8_set_X8_holderAt rfl rfl rfl (by decide +kernel) ⟨by first | exact Nat.le_of_ble_eq_true rfl | (simp only [headSpec]; omega), by first | exact Nat.le_of_ble_eq_true rfl | (simp only [headSpec]; omega)⟩ hK hP hD hS hA [0, 1, 2, 3, 4, 5, 6, 7, 8, 9, 10, 11, 12, 13] (by decide) rfl (ci := 7) rfl rfl rfl rfl rfl hl.1 (Nat.le_of_ble_eq_true rfl) dX8_set_2 ⟨Nat.zero_le _, Nat.zero_le _⟩ (fun hp1 H locs hP hS => ?_)
    refine W.eq (g2 := F0 m 5 ls [.ref (d_t_holders 1)]) rfl ?_
    have h := it_n h (by decide)
    refine lv_astore (lv' := [(4, .ref (d_t_holders 1)), (0, .ref h_t), (1, .int p0), (2, .int p1), (3, .int p2)]) hx hb dX8_set_5 hl (by decide) rfl (fun ls hl => ?_)
    refine lv_aload hx hb dX8_set_7 (lv_at hl 0 rfl) ?_
    refine lv_iconst (v := (3 : Int32)) hx hb dX8_set_9 (by decide) ?_
    obtain ⟨x2, hx2, h⟩ := bd_e h
    try dsimp only at h
    refine k_SiU (n := 2) (As := [.ref (d_t_holders 1), .int (3 : Int32)]) (rest := []) hx hb hml hown hts (c_X8_refusalOf l G cI cJ cD cH H.size (d_t_holders 1) (q_t_holders 1) (t_holders_sort 1) (t_holders_tree 1) (t_holders_limit 1) (t_holders_above 1) (t_holders_size 1) (3 : Int32) x2 hx2) gX8_set_X8_refusalOf rfl rfl rfl (by decide +kernel) ⟨by first | exact Nat.le_of_ble_eq_true rfl | (simp only [headSpec]; omega), by first | exact Nat.le_of_ble_eq_true rfl | (simp only [headSpec]; omega)⟩ hK hP hD hS hA [4] (by decide) rfl rfl rfl hl.1 (Nat.le_of_ble_eq_true rfl) dX8_set_10 ⟨Nat.zero_le _, Nat.zero_le _⟩ (fun hp2 H locs hP hS => ?_)
    refine lv_istore (lv' := [(5, .int x2), (4, .ref (d_t_holders 1)), (0, .ref h_t), (1, .int p0), (2, .int p1), (3, .int p2)]) hx hb dX8_set_13 hl (by decide) rfl (fun ls hl => ?_)
    refine lv_aload hx hb dX8_set_15 (lv_at hl 1 rfl) ?_
    refine lv_ifnull hx hb dX8_set_17 ?_
    refine lv_iload hx hb dX8_set_20 (lv_at hl 0 rfl) ?_
    refine lv_if_eq (tgt := 28) hx hb dX8_set_22 (by decide) (fun c3 => ?_) (fun c3 => ?_)
    rotate_left
    · have h := it_n h c3
      refine lv_iload hx hb dX8_set_25 (lv_at hl 0 rfl) ?_
      cases h
      exact k_iret hx hb hr hlocks hP hS rfl dX8_set_27
    have h := it_p h c3
    refine lv_aload hx hb dX8_set_28 (lv_at hl 1 rfl) ?_
    refine lv_iload_n hx hb dX8_set_30 rfl (lv_at hl 4 rfl) ?_
    obtain ⟨x4, hx4, h⟩ := bd_e h
    try dsimp only at h
    refine k_ViU (n := 1) (As := [.int p1]) (rest := []) hx hb hml hown hts (c_X2_hasPlace l G cI cJ cD cH H.size (d_t_holders 1) (q_t_holders 1) (t_holders_sort 1) (t_holders_tree 1) (t_holders_limit 1) (t_holders_above 1) (t_holders_size 1) p1 x4 hx4) gX8_set_X2_hasPlace rfl rfl rfl (by decide +kernel) ⟨by first | exact Nat.le_of_ble_eq_true rfl | (simp only [headSpec]; omega), by first | exact Nat.le_of_ble_eq_true rfl | (simp only [headSpec]; omega)⟩ hK hP hD hS hA [4] (by decide) rfl (ci := 2) rfl rfl rfl rfl rfl hl.1 (Nat.le_of_ble_eq_true rfl) dX8_set_31 ⟨Nat.zero_le _, Nat.zero_le _⟩ (fun hp4 H locs hP hS => ?_)
    refine lv_if_ne (tgt := 40) hx hb dX8_set_34 (by decide) (fun c5 => ?_) (fun c5 => ?_)
    rotate_left
    · have h := it_p h c5
      refine lv_bipush (v := (-13 : Int32)) hx hb dX8_set_37 (by decide) ?_
      cases h
      exact k_iret hx hb hr hlocks hP hS rfl dX8_set_39
    have h := it_n h c5
    refine lv_aload hx hb dX8_set_40 (lv_at hl 1 rfl) ?_
    refine va_get (D := G) (ci := 2) (v := .ref (q_t_holders 1)) (C := RX2) (T := TX2) (N := 6) hx hb hts hinX2 hown hK hP 4 rfl rfl 3 (by decide) (hts (.fieldLink RX8 288 "MarkedCurves$Holder" "ints" "[I") (List.mem_of_getElem? (i := 1) (by decide +kernel))) (fun _ h9 => h9) rfl dX8_set_42 ?_
    refine lv_iload_n hx hb dX8_set_45 rfl (lv_at hl 4 rfl) ?_
    refine lv_iload_n hx hb dX8_set_46 rfl (lv_at hl 5 rfl) ?_
    obtain ⟨hn6, h⟩ := ck_e h
    refine va_iast hx hb hK hP hD hS 5 0 rfl rfl hn6 dX8_set_47 (fun H locs hP hD hS => ?_)
    have hP : va_P G vwCl [(h_t, .inr (7, [.ref h_t_desk, .ref h_t_imageDesk, .ref h_t_deeds, .ref h_t_numbers, .ref h_t_tape, .ref h_t_reader, .ref h_t_speller, .ref h_t_holders, .int t_imageKept])), (h_t_holders, .inl (cH, 6, .inr (.inr (.inr (.inr (fun i => some (d_t_holders i))))))), ((d_t_holders 0), .inr (2, [.int (t_holders_sort 0), .long (t_holders_tree 0), .int (t_holders_limit 0), .ref (q_t_holders 0), .long (t_holders_above 0), .int (t_holders_size 0)])), ((q_t_holders 0), .inl (cI, 20, .inl ((va_up a_t_holders 1 (upd (a_t_holders 1) p1.toNatClampNeg p2)) 0))), ((d_t_holders 1), .inr (2, [.int (t_holders_sort 1), .long (t_holders_tree 1), .int (t_holders_limit 1), .ref (q_t_holders 1), .long (t_holders_above 1), .int (t_holders_size 1)])), ((q_t_holders 1), .inl (cI, 20, .inl ((va_up a_t_holders 1 (upd (a_t_holders 1) p1.toNatClampNeg p2)) 1))), ((d_t_holders 2), .inr (2, [.int (t_holders_sort 2), .long (t_holders_tree 2), .int (t_holders_limit 2), .ref (q_t_holders 2), .long (t_holders_above 2), .int (t_holders_size 2)])), ((q_t_holders 2), .inl (cI, 20, .inl ((va_up a_t_holders 1 (upd (a_t_holders 1) p1.toNatClampNeg p2)) 2))), ((d_t_holders 3), .inr (2, [.int (t_holders_sort 3), .long (t_holders_tree 3), .int (t_holders_limit 3), .ref (q_t_holders 3), .long (t_holders_above 3), .int (t_holders_size 3)])), ((q_t_holders 3), .inl (cI, 20, .inl ((va_up a_t_holders 1 (upd (a_t_holders 1) p1.toNatClampNeg p2)) 3))), ((d_t_holders 4), .inr (2, [.int (t_holders_sort 4), .long (t_holders_tree 4), .int (t_holders_limit 4), .ref (q_t_holders 4), .long (t_holders_above 4), .int (t_holders_size 4)])), ((q_t_holders 4), .inl (cI, 20, .inl ((va_up a_t_holders 1 (upd (a_t_holders 1) p1.toNatClampNeg p2)) 4))), ((d_t_holders 5), .inr (2, [.int (t_holders_sort 5), .long (t_holders_tree 5), .int (t_holders_limit 5), .ref (q_t_holders 5), .long (t_holders_above 5), .int (t_holders_size 5)])), ((q_t_holders 5), .inl (cI, 20, .inl ((va_up a_t_holders 1 (upd (a_t_holders 1) p1.toNatClampNeg p2)) 5)))] H := hP
    have hD : va_D A [(h_t, .inr (7, [.ref h_t_desk, .ref h_t_imageDesk, .ref h_t_deeds, .ref h_t_numbers, .ref h_t_tape, .ref h_t_reader, .ref h_t_speller, .ref h_t_holders, .int t_imageKept])), (h_t_holders, .inl (cH, 6, .inr (.inr (.inr (.inr (fun i => some (d_t_holders i))))))), ((d_t_holders 0), .inr (2, [.int (t_holders_sort 0), .long (t_holders_tree 0), .int (t_holders_limit 0), .ref (q_t_holders 0), .long (t_holders_above 0), .int (t_holders_size 0)])), ((q_t_holders 0), .inl (cI, 20, .inl ((va_up a_t_holders 1 (upd (a_t_holders 1) p1.toNatClampNeg p2)) 0))), ((d_t_holders 1), .inr (2, [.int (t_holders_sort 1), .long (t_holders_tree 1), .int (t_holders_limit 1), .ref (q_t_holders 1), .long (t_holders_above 1), .int (t_holders_size 1)])), ((q_t_holders 1), .inl (cI, 20, .inl ((va_up a_t_holders 1 (upd (a_t_holders 1) p1.toNatClampNeg p2)) 1))), ((d_t_holders 2), .inr (2, [.int (t_holders_sort 2), .long (t_holders_tree 2), .int (t_holders_limit 2), .ref (q_t_holders 2), .long (t_holders_above 2), .int (t_holders_size 2)])), ((q_t_holders 2), .inl (cI, 20, .inl ((va_up a_t_holders 1 (upd (a_t_holders 1) p1.toNatClampNeg p2)) 2))), ((d_t_holders 3), .inr (2, [.int (t_holders_sort 3), .long (t_holders_tree 3), .int (t_holders_limit 3), .ref (q_t_holders 3), .long (t_holders_above 3), .int (t_holders_size 3)])), ((q_t_holders 3), .inl (cI, 20, .inl ((va_up a_t_holders 1 (upd (a_t_holders 1) p1.toNatClampNeg p2)) 3))), ((d_t_holders 4), .inr (2, [.int (t_holders_sort 4), .long (t_holders_tree 4), .int (t_holders_limit 4), .ref (q_t_holders 4), .long (t_holders_above 4), .int (t_holders_size 4)])), ((q_t_holders 4), .inl (cI, 20, .inl ((va_up a_t_holders 1 (upd (a_t_holders 1) p1.toNatClampNeg p2)) 4))), ((d_t_holders 5), .inr (2, [.int (t_holders_sort 5), .long (t_holders_tree 5), .int (t_holders_limit 5), .ref (q_t_holders 5), .long (t_holders_above 5), .int (t_holders_size 5)])), ((q_t_holders 5), .inl (cI, 20, .inl ((va_up a_t_holders 1 (upd (a_t_holders 1) p1.toNatClampNeg p2)) 5)))] := hD
    refine lv_iconst (v := (1 : Int32)) hx hb dX8_set_48 (by decide) ?_
    cases h
    exact k_iret hx hb hr hlocks hP hS rfl dX8_set_49
  · refine k_VqU (n := 1) (As := [.int p0]) (rest := []) hx hb hml hown hts (c_X8_holderAt l G cI cJ cD cH s.heap.size h_t h_t_holders h_t_desk h_t_imageDesk h_t_deeds h_t_numbers h_t_tape h_t_reader h_t_speller d_t_holders q_t_holders a_t_holders t_holders_sort t_holders_tree t_holders_limit t_holders_above t_holders_size t_imageKept p0 2 hx1) gX8_set_X8_holderAt rfl rfl rfl (by decide +kernel) ⟨by first | exact Nat.le_of_ble_eq_true rfl | (simp only [headSpec]; omega), by first | exact Nat.le_of_ble_eq_true rfl | (simp only [headSpec]; omega)⟩ hK hP hD hS hA [0, 1, 2, 3, 4, 5, 6, 7, 8, 9, 10, 11, 12, 13] (by decide) rfl (ci := 7) rfl rfl rfl rfl rfl hl.1 (Nat.le_of_ble_eq_true rfl) dX8_set_2 ⟨Nat.zero_le _, Nat.zero_le _⟩ (fun hp1 H locs hP hS => ?_)
    refine W.eq (g2 := F0 m 5 ls [.ref (d_t_holders 2)]) rfl ?_
    have h := it_n h (by decide)
    refine lv_astore (lv' := [(4, .ref (d_t_holders 2)), (0, .ref h_t), (1, .int p0), (2, .int p1), (3, .int p2)]) hx hb dX8_set_5 hl (by decide) rfl (fun ls hl => ?_)
    refine lv_aload hx hb dX8_set_7 (lv_at hl 0 rfl) ?_
    refine lv_iconst (v := (3 : Int32)) hx hb dX8_set_9 (by decide) ?_
    obtain ⟨x2, hx2, h⟩ := bd_e h
    try dsimp only at h
    refine k_SiU (n := 2) (As := [.ref (d_t_holders 2), .int (3 : Int32)]) (rest := []) hx hb hml hown hts (c_X8_refusalOf l G cI cJ cD cH H.size (d_t_holders 2) (q_t_holders 2) (t_holders_sort 2) (t_holders_tree 2) (t_holders_limit 2) (t_holders_above 2) (t_holders_size 2) (3 : Int32) x2 hx2) gX8_set_X8_refusalOf rfl rfl rfl (by decide +kernel) ⟨by first | exact Nat.le_of_ble_eq_true rfl | (simp only [headSpec]; omega), by first | exact Nat.le_of_ble_eq_true rfl | (simp only [headSpec]; omega)⟩ hK hP hD hS hA [6] (by decide) rfl rfl rfl hl.1 (Nat.le_of_ble_eq_true rfl) dX8_set_10 ⟨Nat.zero_le _, Nat.zero_le _⟩ (fun hp2 H locs hP hS => ?_)
    refine lv_istore (lv' := [(5, .int x2), (4, .ref (d_t_holders 2)), (0, .ref h_t), (1, .int p0), (2, .int p1), (3, .int p2)]) hx hb dX8_set_13 hl (by decide) rfl (fun ls hl => ?_)
    refine lv_aload hx hb dX8_set_15 (lv_at hl 1 rfl) ?_
    refine lv_ifnull hx hb dX8_set_17 ?_
    refine lv_iload hx hb dX8_set_20 (lv_at hl 0 rfl) ?_
    refine lv_if_eq (tgt := 28) hx hb dX8_set_22 (by decide) (fun c3 => ?_) (fun c3 => ?_)
    rotate_left
    · have h := it_n h c3
      refine lv_iload hx hb dX8_set_25 (lv_at hl 0 rfl) ?_
      cases h
      exact k_iret hx hb hr hlocks hP hS rfl dX8_set_27
    have h := it_p h c3
    refine lv_aload hx hb dX8_set_28 (lv_at hl 1 rfl) ?_
    refine lv_iload_n hx hb dX8_set_30 rfl (lv_at hl 4 rfl) ?_
    obtain ⟨x4, hx4, h⟩ := bd_e h
    try dsimp only at h
    refine k_ViU (n := 1) (As := [.int p1]) (rest := []) hx hb hml hown hts (c_X2_hasPlace l G cI cJ cD cH H.size (d_t_holders 2) (q_t_holders 2) (t_holders_sort 2) (t_holders_tree 2) (t_holders_limit 2) (t_holders_above 2) (t_holders_size 2) p1 x4 hx4) gX8_set_X2_hasPlace rfl rfl rfl (by decide +kernel) ⟨by first | exact Nat.le_of_ble_eq_true rfl | (simp only [headSpec]; omega), by first | exact Nat.le_of_ble_eq_true rfl | (simp only [headSpec]; omega)⟩ hK hP hD hS hA [6] (by decide) rfl (ci := 2) rfl rfl rfl rfl rfl hl.1 (Nat.le_of_ble_eq_true rfl) dX8_set_31 ⟨Nat.zero_le _, Nat.zero_le _⟩ (fun hp4 H locs hP hS => ?_)
    refine lv_if_ne (tgt := 40) hx hb dX8_set_34 (by decide) (fun c5 => ?_) (fun c5 => ?_)
    rotate_left
    · have h := it_p h c5
      refine lv_bipush (v := (-13 : Int32)) hx hb dX8_set_37 (by decide) ?_
      cases h
      exact k_iret hx hb hr hlocks hP hS rfl dX8_set_39
    have h := it_n h c5
    refine lv_aload hx hb dX8_set_40 (lv_at hl 1 rfl) ?_
    refine va_get (D := G) (ci := 2) (v := .ref (q_t_holders 2)) (C := RX2) (T := TX2) (N := 6) hx hb hts hinX2 hown hK hP 6 rfl rfl 3 (by decide) (hts (.fieldLink RX8 288 "MarkedCurves$Holder" "ints" "[I") (List.mem_of_getElem? (i := 1) (by decide +kernel))) (fun _ h9 => h9) rfl dX8_set_42 ?_
    refine lv_iload_n hx hb dX8_set_45 rfl (lv_at hl 4 rfl) ?_
    refine lv_iload_n hx hb dX8_set_46 rfl (lv_at hl 5 rfl) ?_
    obtain ⟨hn6, h⟩ := ck_e h
    refine va_iast hx hb hK hP hD hS 7 0 rfl rfl hn6 dX8_set_47 (fun H locs hP hD hS => ?_)
    have hP : va_P G vwCl [(h_t, .inr (7, [.ref h_t_desk, .ref h_t_imageDesk, .ref h_t_deeds, .ref h_t_numbers, .ref h_t_tape, .ref h_t_reader, .ref h_t_speller, .ref h_t_holders, .int t_imageKept])), (h_t_holders, .inl (cH, 6, .inr (.inr (.inr (.inr (fun i => some (d_t_holders i))))))), ((d_t_holders 0), .inr (2, [.int (t_holders_sort 0), .long (t_holders_tree 0), .int (t_holders_limit 0), .ref (q_t_holders 0), .long (t_holders_above 0), .int (t_holders_size 0)])), ((q_t_holders 0), .inl (cI, 20, .inl ((va_up a_t_holders 2 (upd (a_t_holders 2) p1.toNatClampNeg p2)) 0))), ((d_t_holders 1), .inr (2, [.int (t_holders_sort 1), .long (t_holders_tree 1), .int (t_holders_limit 1), .ref (q_t_holders 1), .long (t_holders_above 1), .int (t_holders_size 1)])), ((q_t_holders 1), .inl (cI, 20, .inl ((va_up a_t_holders 2 (upd (a_t_holders 2) p1.toNatClampNeg p2)) 1))), ((d_t_holders 2), .inr (2, [.int (t_holders_sort 2), .long (t_holders_tree 2), .int (t_holders_limit 2), .ref (q_t_holders 2), .long (t_holders_above 2), .int (t_holders_size 2)])), ((q_t_holders 2), .inl (cI, 20, .inl ((va_up a_t_holders 2 (upd (a_t_holders 2) p1.toNatClampNeg p2)) 2))), ((d_t_holders 3), .inr (2, [.int (t_holders_sort 3), .long (t_holders_tree 3), .int (t_holders_limit 3), .ref (q_t_holders 3), .long (t_holders_above 3), .int (t_holders_size 3)])), ((q_t_holders 3), .inl (cI, 20, .inl ((va_up a_t_holders 2 (upd (a_t_holders 2) p1.toNatClampNeg p2)) 3))), ((d_t_holders 4), .inr (2, [.int (t_holders_sort 4), .long (t_holders_tree 4), .int (t_holders_limit 4), .ref (q_t_holders 4), .long (t_holders_above 4), .int (t_holders_size 4)])), ((q_t_holders 4), .inl (cI, 20, .inl ((va_up a_t_holders 2 (upd (a_t_holders 2) p1.toNatClampNeg p2)) 4))), ((d_t_holders 5), .inr (2, [.int (t_holders_sort 5), .long (t_holders_tree 5), .int (t_holders_limit 5), .ref (q_t_holders 5), .long (t_holders_above 5), .int (t_holders_size 5)])), ((q_t_holders 5), .inl (cI, 20, .inl ((va_up a_t_holders 2 (upd (a_t_holders 2) p1.toNatClampNeg p2)) 5)))] H := hP
    have hD : va_D A [(h_t, .inr (7, [.ref h_t_desk, .ref h_t_imageDesk, .ref h_t_deeds, .ref h_t_numbers, .ref h_t_tape, .ref h_t_reader, .ref h_t_speller, .ref h_t_holders, .int t_imageKept])), (h_t_holders, .inl (cH, 6, .inr (.inr (.inr (.inr (fun i => some (d_t_holders i))))))), ((d_t_holders 0), .inr (2, [.int (t_holders_sort 0), .long (t_holders_tree 0), .int (t_holders_limit 0), .ref (q_t_holders 0), .long (t_holders_above 0), .int (t_holders_size 0)])), ((q_t_holders 0), .inl (cI, 20, .inl ((va_up a_t_holders 2 (upd (a_t_holders 2) p1.toNatClampNeg p2)) 0))), ((d_t_holders 1), .inr (2, [.int (t_holders_sort 1), .long (t_holders_tree 1), .int (t_holders_limit 1), .ref (q_t_holders 1), .long (t_holders_above 1), .int (t_holders_size 1)])), ((q_t_holders 1), .inl (cI, 20, .inl ((va_up a_t_holders 2 (upd (a_t_holders 2) p1.toNatClampNeg p2)) 1))), ((d_t_holders 2), .inr (2, [.int (t_holders_sort 2), .long (t_holders_tree 2), .int (t_holders_limit 2), .ref (q_t_holders 2), .long (t_holders_above 2), .int (t_holders_size 2)])), ((q_t_holders 2), .inl (cI, 20, .inl ((va_up a_t_holders 2 (upd (a_t_holders 2) p1.toNatClampNeg p2)) 2))), ((d_t_holders 3), .inr (2, [.int (t_holders_sort 3), .long (t_holders_tree 3), .int (t_holders_limit 3), .ref (q_t_holders 3), .long (t_holders_above 3), .int (t_holders_size 3)])), ((q_t_holders 3), .inl (cI, 20, .inl ((va_up a_t_holders 2 (upd (a_t_holders 2) p1.toNatClampNeg p2)) 3))), ((d_t_holders 4), .inr (2, [.int (t_holders_sort 4), .long (t_holders_tree 4), .int (t_holders_limit 4), .ref (q_t_holders 4), .long (t_holders_above 4), .int (t_holders_size 4)])), ((q_t_holders 4), .inl (cI, 20, .inl ((va_up a_t_holders 2 (upd (a_t_holders 2) p1.toNatClampNeg p2)) 4))), ((d_t_holders 5), .inr (2, [.int (t_holders_sort 5), .long (t_holders_tree 5), .int (t_holders_limit 5), .ref (q_t_holders 5), .long (t_holders_above 5), .int (t_holders_size 5)])), ((q_t_holders 5), .inl (cI, 20, .inl ((va_up a_t_holders 2 (upd (a_t_holders 2) p1.toNatClampNeg p2)) 5)))] := hD
    refine lv_iconst (v := (1 : Int32)) hx hb dX8_set_48 (by decide) ?_
    cases h
    exact k_iret hx hb hr hlocks hP hS rfl dX8_set_49
  · refine k_VqU (n := 1) (As := [.int p0]) (rest := []) hx hb hml hown hts (c_X8_holderAt l G cI cJ cD cH s.heap.size h_t h_t_holders h_t_desk h_t_imageDesk h_t_deeds h_t_numbers h_t_tape h_t_reader h_t_speller d_t_holders q_t_holders a_t_holders t_holders_sort t_holders_tree t_holders_limit t_holders_above t_holders_size t_imageKept p0 3 hx1) gX8_set_X8_holderAt rfl rfl rfl (by decide +kernel) ⟨by first | exact Nat.le_of_ble_eq_true rfl | (simp only [headSpec]; omega), by first | exact Nat.le_of_ble_eq_true rfl | (simp only [headSpec]; omega)⟩ hK hP hD hS hA [0, 1, 2, 3, 4, 5, 6, 7, 8, 9, 10, 11, 12, 13] (by decide) rfl (ci := 7) rfl rfl rfl rfl rfl hl.1 (Nat.le_of_ble_eq_true rfl) dX8_set_2 ⟨Nat.zero_le _, Nat.zero_le _⟩ (fun hp1 H locs hP hS => ?_)
    refine W.eq (g2 := F0 m 5 ls [.ref (d_t_holders 3)]) rfl ?_
    have h := it_n h (by decide)
    refine lv_astore (lv' := [(4, .ref (d_t_holders 3)), (0, .ref h_t), (1, .int p0), (2, .int p1), (3, .int p2)]) hx hb dX8_set_5 hl (by decide) rfl (fun ls hl => ?_)
    refine lv_aload hx hb dX8_set_7 (lv_at hl 0 rfl) ?_
    refine lv_iconst (v := (3 : Int32)) hx hb dX8_set_9 (by decide) ?_
    obtain ⟨x2, hx2, h⟩ := bd_e h
    try dsimp only at h
    refine k_SiU (n := 2) (As := [.ref (d_t_holders 3), .int (3 : Int32)]) (rest := []) hx hb hml hown hts (c_X8_refusalOf l G cI cJ cD cH H.size (d_t_holders 3) (q_t_holders 3) (t_holders_sort 3) (t_holders_tree 3) (t_holders_limit 3) (t_holders_above 3) (t_holders_size 3) (3 : Int32) x2 hx2) gX8_set_X8_refusalOf rfl rfl rfl (by decide +kernel) ⟨by first | exact Nat.le_of_ble_eq_true rfl | (simp only [headSpec]; omega), by first | exact Nat.le_of_ble_eq_true rfl | (simp only [headSpec]; omega)⟩ hK hP hD hS hA [8] (by decide) rfl rfl rfl hl.1 (Nat.le_of_ble_eq_true rfl) dX8_set_10 ⟨Nat.zero_le _, Nat.zero_le _⟩ (fun hp2 H locs hP hS => ?_)
    refine lv_istore (lv' := [(5, .int x2), (4, .ref (d_t_holders 3)), (0, .ref h_t), (1, .int p0), (2, .int p1), (3, .int p2)]) hx hb dX8_set_13 hl (by decide) rfl (fun ls hl => ?_)
    refine lv_aload hx hb dX8_set_15 (lv_at hl 1 rfl) ?_
    refine lv_ifnull hx hb dX8_set_17 ?_
    refine lv_iload hx hb dX8_set_20 (lv_at hl 0 rfl) ?_
    refine lv_if_eq (tgt := 28) hx hb dX8_set_22 (by decide) (fun c3 => ?_) (fun c3 => ?_)
    rotate_left
    · have h := it_n h c3
      refine lv_iload hx hb dX8_set_25 (lv_at hl 0 rfl) ?_
      cases h
      exact k_iret hx hb hr hlocks hP hS rfl dX8_set_27
    have h := it_p h c3
    refine lv_aload hx hb dX8_set_28 (lv_at hl 1 rfl) ?_
    refine lv_iload_n hx hb dX8_set_30 rfl (lv_at hl 4 rfl) ?_
    obtain ⟨x4, hx4, h⟩ := bd_e h
    try dsimp only at h
    refine k_ViU (n := 1) (As := [.int p1]) (rest := []) hx hb hml hown hts (c_X2_hasPlace l G cI cJ cD cH H.size (d_t_holders 3) (q_t_holders 3) (t_holders_sort 3) (t_holders_tree 3) (t_holders_limit 3) (t_holders_above 3) (t_holders_size 3) p1 x4 hx4) gX8_set_X2_hasPlace rfl rfl rfl (by decide +kernel) ⟨by first | exact Nat.le_of_ble_eq_true rfl | (simp only [headSpec]; omega), by first | exact Nat.le_of_ble_eq_true rfl | (simp only [headSpec]; omega)⟩ hK hP hD hS hA [8] (by decide) rfl (ci := 2) rfl rfl rfl rfl rfl hl.1 (Nat.le_of_ble_eq_true rfl) dX8_set_31 ⟨Nat.zero_le _, Nat.zero_le _⟩ (fun hp4 H locs hP hS => ?_)
    refine lv_if_ne (tgt := 40) hx hb dX8_set_34 (by decide) (fun c5 => ?_) (fun c5 => ?_)
    rotate_left
    · have h := it_p h c5
      refine lv_bipush (v := (-13 : Int32)) hx hb dX8_set_37 (by decide) ?_
      cases h
      exact k_iret hx hb hr hlocks hP hS rfl dX8_set_39
    have h := it_n h c5
    refine lv_aload hx hb dX8_set_40 (lv_at hl 1 rfl) ?_
    refine va_get (D := G) (ci := 2) (v := .ref (q_t_holders 3)) (C := RX2) (T := TX2) (N := 6) hx hb hts hinX2 hown hK hP 8 rfl rfl 3 (by decide) (hts (.fieldLink RX8 288 "MarkedCurves$Holder" "ints" "[I") (List.mem_of_getElem? (i := 1) (by decide +kernel))) (fun _ h9 => h9) rfl dX8_set_42 ?_
    refine lv_iload_n hx hb dX8_set_45 rfl (lv_at hl 4 rfl) ?_
    refine lv_iload_n hx hb dX8_set_46 rfl (lv_at hl 5 rfl) ?_
    obtain ⟨hn6, h⟩ := ck_e h
    refine va_iast hx hb hK hP hD hS 9 0 rfl rfl hn6 dX8_set_47 (fun H locs hP hD hS => ?_)
    have hP : va_P G vwCl [(h_t, .inr (7, [.ref h_t_desk, .ref h_t_imageDesk, .ref h_t_deeds, .ref h_t_numbers, .ref h_t_tape, .ref h_t_reader, .ref h_t_speller, .ref h_t_holders, .int t_imageKept])), (h_t_holders, .inl (cH, 6, .inr (.inr (.inr (.inr (fun i => some (d_t_holders i))))))), ((d_t_holders 0), .inr (2, [.int (t_holders_sort 0), .long (t_holders_tree 0), .int (t_holders_limit 0), .ref (q_t_holders 0), .long (t_holders_above 0), .int (t_holders_size 0)])), ((q_t_holders 0), .inl (cI, 20, .inl ((va_up a_t_holders 3 (upd (a_t_holders 3) p1.toNatClampNeg p2)) 0))), ((d_t_holders 1), .inr (2, [.int (t_holders_sort 1), .long (t_holders_tree 1), .int (t_holders_limit 1), .ref (q_t_holders 1), .long (t_holders_above 1), .int (t_holders_size 1)])), ((q_t_holders 1), .inl (cI, 20, .inl ((va_up a_t_holders 3 (upd (a_t_holders 3) p1.toNatClampNeg p2)) 1))), ((d_t_holders 2), .inr (2, [.int (t_holders_sort 2), .long (t_holders_tree 2), .int (t_holders_limit 2), .ref (q_t_holders 2), .long (t_holders_above 2), .int (t_holders_size 2)])), ((q_t_holders 2), .inl (cI, 20, .inl ((va_up a_t_holders 3 (upd (a_t_holders 3) p1.toNatClampNeg p2)) 2))), ((d_t_holders 3), .inr (2, [.int (t_holders_sort 3), .long (t_holders_tree 3), .int (t_holders_limit 3), .ref (q_t_holders 3), .long (t_holders_above 3), .int (t_holders_size 3)])), ((q_t_holders 3), .inl (cI, 20, .inl ((va_up a_t_holders 3 (upd (a_t_holders 3) p1.toNatClampNeg p2)) 3))), ((d_t_holders 4), .inr (2, [.int (t_holders_sort 4), .long (t_holders_tree 4), .int (t_holders_limit 4), .ref (q_t_holders 4), .long (t_holders_above 4), .int (t_holders_size 4)])), ((q_t_holders 4), .inl (cI, 20, .inl ((va_up a_t_holders 3 (upd (a_t_holders 3) p1.toNatClampNeg p2)) 4))), ((d_t_holders 5), .inr (2, [.int (t_holders_sort 5), .long (t_holders_tree 5), .int (t_holders_limit 5), .ref (q_t_holders 5), .long (t_holders_above 5), .int (t_holders_size 5)])), ((q_t_holders 5), .inl (cI, 20, .inl ((va_up a_t_holders 3 (upd (a_t_holders 3) p1.toNatClampNeg p2)) 5)))] H := hP
    have hD : va_D A [(h_t, .inr (7, [.ref h_t_desk, .ref h_t_imageDesk, .ref h_t_deeds, .ref h_t_numbers, .ref h_t_tape, .ref h_t_reader, .ref h_t_speller, .ref h_t_holders, .int t_imageKept])), (h_t_holders, .inl (cH, 6, .inr (.inr (.inr (.inr (fun i => some (d_t_holders i))))))), ((d_t_holders 0), .inr (2, [.int (t_holders_sort 0), .long (t_holders_tree 0), .int (t_holders_limit 0), .ref (q_t_holders 0), .long (t_holders_above 0), .int (t_holders_size 0)])), ((q_t_holders 0), .inl (cI, 20, .inl ((va_up a_t_holders 3 (upd (a_t_holders 3) p1.toNatClampNeg p2)) 0))), ((d_t_holders 1), .inr (2, [.int (t_holders_sort 1), .long (t_holders_tree 1), .int (t_holders_limit 1), .ref (q_t_holders 1), .long (t_holders_above 1), .int (t_holders_size 1)])), ((q_t_holders 1), .inl (cI, 20, .inl ((va_up a_t_holders 3 (upd (a_t_holders 3) p1.toNatClampNeg p2)) 1))), ((d_t_holders 2), .inr (2, [.int (t_holders_sort 2), .long (t_holders_tree 2), .int (t_holders_limit 2), .ref (q_t_holders 2), .long (t_holders_above 2), .int (t_holders_size 2)])), ((q_t_holders 2), .inl (cI, 20, .inl ((va_up a_t_holders 3 (upd (a_t_holders 3) p1.toNatClampNeg p2)) 2))), ((d_t_holders 3), .inr (2, [.int (t_holders_sort 3), .long (t_holders_tree 3), .int (t_holders_limit 3), .ref (q_t_holders 3), .long (t_holders_above 3), .int (t_holders_size 3)])), ((q_t_holders 3), .inl (cI, 20, .inl ((va_up a_t_holders 3 (upd (a_t_holders 3) p1.toNatClampNeg p2)) 3))), ((d_t_holders 4), .inr (2, [.int (t_holders_sort 4), .long (t_holders_tree 4), .int (t_holders_limit 4), .ref (q_t_holders 4), .long (t_holders_above 4), .int (t_holders_size 4)])), ((q_t_holders 4), .inl (cI, 20, .inl ((va_up a_t_holders 3 (upd (a_t_holders 3) p1.toNatClampNeg p2)) 4))), ((d_t_holders 5), .inr (2, [.int (t_holders_sort 5), .long (t_holders_tree 5), .int (t_holders_limit 5), .ref (q_t_holders 5), .long (t_holders_above 5), .int (t_holders_size 5)])), ((q_t_holders 5), .inl (cI, 20, .inl ((va_up a_t_holders 3 (upd (a_t_holders 3) p1.toNatClampNeg p2)) 5)))] := hD
    refine lv_iconst (v := (1 : Int32)) hx hb dX8_set_48 (by decide) ?_
    cases h
    exact k_iret hx hb hr hlocks hP hS rfl dX8_set_49
  · refine k_VqU (n := 1) (As := [.int p0]) (rest := []) hx hb hml hown hts (c_X8_holderAt l G cI cJ cD cH s.heap.size h_t h_t_holders h_t_desk h_t_imageDesk h_t_deeds h_t_numbers h_t_tape h_t_reader h_t_speller d_t_holders q_t_holders a_t_holders t_holders_sort t_holders_tree t_holders_limit t_holders_above t_holders_size t_imageKept p0 4 hx1) gX8_set_X8_holderAt rfl rfl rfl (by decide +kernel) ⟨by first | exact Nat.le_of_ble_eq_true rfl | (simp only [headSpec]; omega), by first | exact Nat.le_of_ble_eq_true rfl | (simp only [headSpec]; omega)⟩ hK hP hD hS hA [0, 1, 2, 3, 4, 5, 6, 7, 8, 9, 10, 11, 12, 13] (by decide) rfl (ci := 7) rfl rfl rfl rfl rfl hl.1 (Nat.le_of_ble_eq_true rfl) dX8_set_2 ⟨Nat.zero_le _, Nat.zero_le _⟩ (fun hp1 H locs hP hS => ?_)
    refine W.eq (g2 := F0 m 5 ls [.ref (d_t_holders 4)]) rfl ?_
    have h := it_n h (by decide)
    refine lv_astore (lv' := [(4, .ref (d_t_holders 4)), (0, .ref h_t), (1, .int p0), (2, .int p1), (3, .int p2)]) hx hb dX8_set_5 hl (by decide) rfl (fun ls hl => ?_)
    refine lv_aload hx hb dX8_set_7 (lv_at hl 0 rfl) ?_
    refine lv_iconst (v := (3 : Int32)) hx hb dX8_set_9 (by decide) ?_
    obtain ⟨x2, hx2, h⟩ := bd_e h
    try dsimp only at h
    refine k_SiU (n := 2) (As := [.ref (d_t_holders 4), .int (3 : Int32)]) (rest := []) hx hb hml hown hts (c_X8_refusalOf l G cI cJ cD cH H.size (d_t_holders 4) (q_t_holders 4) (t_holders_sort 4) (t_holders_tree 4) (t_holders_limit 4) (t_holders_above 4) (t_holders_size 4) (3 : Int32) x2 hx2) gX8_set_X8_refusalOf rfl rfl rfl (by decide +kernel) ⟨by first | exact Nat.le_of_ble_eq_true rfl | (simp only [headSpec]; omega), by first | exact Nat.le_of_ble_eq_true rfl | (simp only [headSpec]; omega)⟩ hK hP hD hS hA [10] (by decide) rfl rfl rfl hl.1 (Nat.le_of_ble_eq_true rfl) dX8_set_10 ⟨Nat.zero_le _, Nat.zero_le _⟩ (fun hp2 H locs hP hS => ?_)
    refine lv_istore (lv' := [(5, .int x2), (4, .ref (d_t_holders 4)), (0, .ref h_t), (1, .int p0), (2, .int p1), (3, .int p2)]) hx hb dX8_set_13 hl (by decide) rfl (fun ls hl => ?_)
    refine lv_aload hx hb dX8_set_15 (lv_at hl 1 rfl) ?_
    refine lv_ifnull hx hb dX8_set_17 ?_
    refine lv_iload hx hb dX8_set_20 (lv_at hl 0 rfl) ?_
    refine lv_if_eq (tgt := 28) hx hb dX8_set_22 (by decide) (fun c3 => ?_) (fun c3 => ?_)
    rotate_left
    · have h := it_n h c3
      refine lv_iload hx hb dX8_set_25 (lv_at hl 0 rfl) ?_
      cases h
      exact k_iret hx hb hr hlocks hP hS rfl dX8_set_27
    have h := it_p h c3
    refine lv_aload hx hb dX8_set_28 (lv_at hl 1 rfl) ?_
    refine lv_iload_n hx hb dX8_set_30 rfl (lv_at hl 4 rfl) ?_
    obtain ⟨x4, hx4, h⟩ := bd_e h
    try dsimp only at h
    refine k_ViU (n := 1) (As := [.int p1]) (rest := []) hx hb hml hown hts (c_X2_hasPlace l G cI cJ cD cH H.size (d_t_holders 4) (q_t_holders 4) (t_holders_sort 4) (t_holders_tree 4) (t_holders_limit 4) (t_holders_above 4) (t_holders_size 4) p1 x4 hx4) gX8_set_X2_hasPlace rfl rfl rfl (by decide +kernel) ⟨by first | exact Nat.le_of_ble_eq_true rfl | (simp only [headSpec]; omega), by first | exact Nat.le_of_ble_eq_true rfl | (simp only [headSpec]; omega)⟩ hK hP hD hS hA [10] (by decide) rfl (ci := 2) rfl rfl rfl rfl rfl hl.1 (Nat.le_of_ble_eq_true rfl) dX8_set_31 ⟨Nat.zero_le _, Nat.zero_le _⟩ (fun hp4 H locs hP hS => ?_)
    refine lv_if_ne (tgt := 40) hx hb dX8_set_34 (by decide) (fun c5 => ?_) (fun c5 => ?_)
    rotate_left
    · have h := it_p h c5
      refine lv_bipush (v := (-13 : Int32)) hx hb dX8_set_37 (by decide) ?_
      cases h
      exact k_iret hx hb hr hlocks hP hS rfl dX8_set_39
    have h := it_n h c5
    refine lv_aload hx hb dX8_set_40 (lv_at hl 1 rfl) ?_
    refine va_get (D := G) (ci := 2) (v := .ref (q_t_holders 4)) (C := RX2) (T := TX2) (N := 6) hx hb hts hinX2 hown hK hP 10 rfl rfl 3 (by decide) (hts (.fieldLink RX8 288 "MarkedCurves$Holder" "ints" "[I") (List.mem_of_getElem? (i := 1) (by decide +kernel))) (fun _ h9 => h9) rfl dX8_set_42 ?_
    refine lv_iload_n hx hb dX8_set_45 rfl (lv_at hl 4 rfl) ?_
    refine lv_iload_n hx hb dX8_set_46 rfl (lv_at hl 5 rfl) ?_
    obtain ⟨hn6, h⟩ := ck_e h
    refine va_iast hx hb hK hP hD hS 11 0 rfl rfl hn6 dX8_set_47 (fun H locs hP hD hS => ?_)
    have hP : va_P G vwCl [(h_t, .inr (7, [.ref h_t_desk, .ref h_t_imageDesk, .ref h_t_deeds, .ref h_t_numbers, .ref h_t_tape, .ref h_t_reader, .ref h_t_speller, .ref h_t_holders, .int t_imageKept])), (h_t_holders, .inl (cH, 6, .inr (.inr (.inr (.inr (fun i => some (d_t_holders i))))))), ((d_t_holders 0), .inr (2, [.int (t_holders_sort 0), .long (t_holders_tree 0), .int (t_holders_limit 0), .ref (q_t_holders 0), .long (t_holders_above 0), .int (t_holders_size 0)])), ((q_t_holders 0), .inl (cI, 20, .inl ((va_up a_t_holders 4 (upd (a_t_holders 4) p1.toNatClampNeg p2)) 0))), ((d_t_holders 1), .inr (2, [.int (t_holders_sort 1), .long (t_holders_tree 1), .int (t_holders_limit 1), .ref (q_t_holders 1), .long (t_holders_above 1), .int (t_holders_size 1)])), ((q_t_holders 1), .inl (cI, 20, .inl ((va_up a_t_holders 4 (upd (a_t_holders 4) p1.toNatClampNeg p2)) 1))), ((d_t_holders 2), .inr (2, [.int (t_holders_sort 2), .long (t_holders_tree 2), .int (t_holders_limit 2), .ref (q_t_holders 2), .long (t_holders_above 2), .int (t_holders_size 2)])), ((q_t_holders 2), .inl (cI, 20, .inl ((va_up a_t_holders 4 (upd (a_t_holders 4) p1.toNatClampNeg p2)) 2))), ((d_t_holders 3), .inr (2, [.int (t_holders_sort 3), .long (t_holders_tree 3), .int (t_holders_limit 3), .ref (q_t_holders 3), .long (t_holders_above 3), .int (t_holders_size 3)])), ((q_t_holders 3), .inl (cI, 20, .inl ((va_up a_t_holders 4 (upd (a_t_holders 4) p1.toNatClampNeg p2)) 3))), ((d_t_holders 4), .inr (2, [.int (t_holders_sort 4), .long (t_holders_tree 4), .int (t_holders_limit 4), .ref (q_t_holders 4), .long (t_holders_above 4), .int (t_holders_size 4)])), ((q_t_holders 4), .inl (cI, 20, .inl ((va_up a_t_holders 4 (upd (a_t_holders 4) p1.toNatClampNeg p2)) 4))), ((d_t_holders 5), .inr (2, [.int (t_holders_sort 5), .long (t_holders_tree 5), .int (t_holders_limit 5), .ref (q_t_holders 5), .long (t_holders_above 5), .int (t_holders_size 5)])), ((q_t_holders 5), .inl (cI, 20, .inl ((va_up a_t_holders 4 (upd (a_t_holders 4) p1.toNatClampNeg p2)) 5)))] H := hP
    have hD : va_D A [(h_t, .inr (7, [.ref h_t_desk, .ref h_t_imageDesk, .ref h_t_deeds, .ref h_t_numbers, .ref h_t_tape, .ref h_t_reader, .ref h_t_speller, .ref h_t_holders, .int t_imageKept])), (h_t_holders, .inl (cH, 6, .inr (.inr (.inr (.inr (fun i => some (d_t_holders i))))))), ((d_t_holders 0), .inr (2, [.int (t_holders_sort 0), .long (t_holders_tree 0), .int (t_holders_limit 0), .ref (q_t_holders 0), .long (t_holders_above 0), .int (t_holders_size 0)])), ((q_t_holders 0), .inl (cI, 20, .inl ((va_up a_t_holders 4 (upd (a_t_holders 4) p1.toNatClampNeg p2)) 0))), ((d_t_holders 1), .inr (2, [.int (t_holders_sort 1), .long (t_holders_tree 1), .int (t_holders_limit 1), .ref (q_t_holders 1), .long (t_holders_above 1), .int (t_holders_size 1)])), ((q_t_holders 1), .inl (cI, 20, .inl ((va_up a_t_holders 4 (upd (a_t_holders 4) p1.toNatClampNeg p2)) 1))), ((d_t_holders 2), .inr (2, [.int (t_holders_sort 2), .long (t_holders_tree 2), .int (t_holders_limit 2), .ref (q_t_holders 2), .long (t_holders_above 2), .int (t_holders_size 2)])), ((q_t_holders 2), .inl (cI, 20, .inl ((va_up a_t_holders 4 (upd (a_t_holders 4) p1.toNatClampNeg p2)) 2))), ((d_t_holders 3), .inr (2, [.int (t_holders_sort 3), .long (t_holders_tree 3), .int (t_holders_limit 3), .ref (q_t_holders 3), .long (t_holders_above 3), .int (t_holders_size 3)])), ((q_t_holders 3), .inl (cI, 20, .inl ((va_up a_t_holders 4 (upd (a_t_holders 4) p1.toNatClampNeg p2)) 3))), ((d_t_holders 4), .inr (2, [.int (t_holders_sort 4), .long (t_holders_tree 4), .int (t_holders_limit 4), .ref (q_t_holders 4), .long (t_holders_above 4), .int (t_holders_size 4)])), ((q_t_holders 4), .inl (cI, 20, .inl ((va_up a_t_holders 4 (upd (a_t_holders 4) p1.toNatClampNeg p2)) 4))), ((d_t_holders 5), .inr (2, [.int (t_holders_sort 5), .long (t_holders_tree 5), .int (t_holders_limit 5), .ref (q_t_holders 5), .long (t_holders_above 5), .int (t_holders_size 5)])), ((q_t_holders 5), .inl (cI, 20, .inl ((va_up a_t_holders 4 (upd (a_t_holders 4) p1.toNatClampNeg p2)) 5)))] := hD
    refine lv_iconst (v := (1 : Int32)) hx hb dX8_set_48 (by decide) ?_
    cases h
    exact k_iret hx hb hr hlocks hP hS rfl dX8_set_49
  · refine k_VqU (n := 1) (As := [.int p0]) (rest := []) hx hb hml hown hts (c_X8_holderAt l G cI cJ cD cH s.heap.size h_t h_t_holders h_t_desk h_t_imageDesk h_t_deeds h_t_numbers h_t_tape h_t_reader h_t_speller d_t_holders q_t_holders a_t_holders t_holders_sort t_holders_tree t_holders_limit t_holders_above t_holders_size t_imageKept p0 5 hx1) gX8_set_X8_holderAt rfl rfl rfl (by decide +kernel) ⟨by first | exact Nat.le_of_ble_eq_true rfl | (simp only [headSpec]; omega), by first | exact Nat.le_of_ble_eq_true rfl | (simp only [headSpec]; omega)⟩ hK hP hD hS hA [0, 1, 2, 3, 4, 5, 6, 7, 8, 9, 10, 11, 12, 13] (by decide) rfl (ci := 7) rfl rfl rfl rfl rfl hl.1 (Nat.le_of_ble_eq_true rfl) dX8_set_2 ⟨Nat.zero_le _, Nat.zero_le _⟩ (fun hp1 H locs hP hS => ?_)
    refine W.eq (g2 := F0 m 5 ls [.ref (d_t_holders 5)]) rfl ?_
    have h := it_n h (by decide)
    refine lv_astore (lv' := [(4, .ref (d_t_holders 5)), (0, .ref h_t), (1, .int p0), (2, .int p1), (3, .int p2)]) hx hb dX8_set_5 hl (by decide) rfl (fun ls hl => ?_)
    refine lv_aload hx hb dX8_set_7 (lv_at hl 0 rfl) ?_
    refine lv_iconst (v := (3 : Int32)) hx hb dX8_set_9 (by decide) ?_
    obtain ⟨x2, hx2, h⟩ := bd_e h
    try dsimp only at h
    refine k_SiU (n := 2) (As := [.ref (d_t_holders 5), .int (3 : Int32)]) (rest := []) hx hb hml hown hts (c_X8_refusalOf l G cI cJ cD cH H.size (d_t_holders 5) (q_t_holders 5) (t_holders_sort 5) (t_holders_tree 5) (t_holders_limit 5) (t_holders_above 5) (t_holders_size 5) (3 : Int32) x2 hx2) gX8_set_X8_refusalOf rfl rfl rfl (by decide +kernel) ⟨by first | exact Nat.le_of_ble_eq_true rfl | (simp only [headSpec]; omega), by first | exact Nat.le_of_ble_eq_true rfl | (simp only [headSpec]; omega)⟩ hK hP hD hS hA [12] (by decide) rfl rfl rfl hl.1 (Nat.le_of_ble_eq_true rfl) dX8_set_10 ⟨Nat.zero_le _, Nat.zero_le _⟩ (fun hp2 H locs hP hS => ?_)
    refine lv_istore (lv' := [(5, .int x2), (4, .ref (d_t_holders 5)), (0, .ref h_t), (1, .int p0), (2, .int p1), (3, .int p2)]) hx hb dX8_set_13 hl (by decide) rfl (fun ls hl => ?_)
    refine lv_aload hx hb dX8_set_15 (lv_at hl 1 rfl) ?_
    refine lv_ifnull hx hb dX8_set_17 ?_
    refine lv_iload hx hb dX8_set_20 (lv_at hl 0 rfl) ?_
    refine lv_if_eq (tgt := 28) hx hb dX8_set_22 (by decide) (fun c3 => ?_) (fun c3 => ?_)
    rotate_left
    · have h := it_n h c3
      refine lv_iload hx hb dX8_set_25 (lv_at hl 0 rfl) ?_
      cases h
      exact k_iret hx hb hr hlocks hP hS rfl dX8_set_27
    have h := it_p h c3
    refine lv_aload hx hb dX8_set_28 (lv_at hl 1 rfl) ?_
    refine lv_iload_n hx hb dX8_set_30 rfl (lv_at hl 4 rfl) ?_
    obtain ⟨x4, hx4, h⟩ := bd_e h
    try dsimp only at h
    refine k_ViU (n := 1) (As := [.int p1]) (rest := []) hx hb hml hown hts (c_X2_hasPlace l G cI cJ cD cH H.size (d_t_holders 5) (q_t_holders 5) (t_holders_sort 5) (t_holders_tree 5) (t_holders_limit 5) (t_holders_above 5) (t_holders_size 5) p1 x4 hx4) gX8_set_X2_hasPlace rfl rfl rfl (by decide +kernel) ⟨by first | exact Nat.le_of_ble_eq_true rfl | (simp only [headSpec]; omega), by first | exact Nat.le_of_ble_eq_true rfl | (simp only [headSpec]; omega)⟩ hK hP hD hS hA [12] (by decide) rfl (ci := 2) rfl rfl rfl rfl rfl hl.1 (Nat.le_of_ble_eq_true rfl) dX8_set_31 ⟨Nat.zero_le _, Nat.zero_le _⟩ (fun hp4 H locs hP hS => ?_)
    refine lv_if_ne (tgt := 40) hx hb dX8_set_34 (by decide) (fun c5 => ?_) (fun c5 => ?_)
    rotate_left
    · have h := it_p h c5
      refine lv_bipush (v := (-13 : Int32)) hx hb dX8_set_37 (by decide) ?_
      cases h
      exact k_iret hx hb hr hlocks hP hS rfl dX8_set_39
    have h := it_n h c5
    refine lv_aload hx hb dX8_set_40 (lv_at hl 1 rfl) ?_
    refine va_get (D := G) (ci := 2) (v := .ref (q_t_holders 5)) (C := RX2) (T := TX2) (N := 6) hx hb hts hinX2 hown hK hP 12 rfl rfl 3 (by decide) (hts (.fieldLink RX8 288 "MarkedCurves$Holder" "ints" "[I") (List.mem_of_getElem? (i := 1) (by decide +kernel))) (fun _ h9 => h9) rfl dX8_set_42 ?_
    refine lv_iload_n hx hb dX8_set_45 rfl (lv_at hl 4 rfl) ?_
    refine lv_iload_n hx hb dX8_set_46 rfl (lv_at hl 5 rfl) ?_
    obtain ⟨hn6, h⟩ := ck_e h
    refine va_iast hx hb hK hP hD hS 13 0 rfl rfl hn6 dX8_set_47 (fun H locs hP hD hS => ?_)
    have hP : va_P G vwCl [(h_t, .inr (7, [.ref h_t_desk, .ref h_t_imageDesk, .ref h_t_deeds, .ref h_t_numbers, .ref h_t_tape, .ref h_t_reader, .ref h_t_speller, .ref h_t_holders, .int t_imageKept])), (h_t_holders, .inl (cH, 6, .inr (.inr (.inr (.inr (fun i => some (d_t_holders i))))))), ((d_t_holders 0), .inr (2, [.int (t_holders_sort 0), .long (t_holders_tree 0), .int (t_holders_limit 0), .ref (q_t_holders 0), .long (t_holders_above 0), .int (t_holders_size 0)])), ((q_t_holders 0), .inl (cI, 20, .inl ((va_up a_t_holders 5 (upd (a_t_holders 5) p1.toNatClampNeg p2)) 0))), ((d_t_holders 1), .inr (2, [.int (t_holders_sort 1), .long (t_holders_tree 1), .int (t_holders_limit 1), .ref (q_t_holders 1), .long (t_holders_above 1), .int (t_holders_size 1)])), ((q_t_holders 1), .inl (cI, 20, .inl ((va_up a_t_holders 5 (upd (a_t_holders 5) p1.toNatClampNeg p2)) 1))), ((d_t_holders 2), .inr (2, [.int (t_holders_sort 2), .long (t_holders_tree 2), .int (t_holders_limit 2), .ref (q_t_holders 2), .long (t_holders_above 2), .int (t_holders_size 2)])), ((q_t_holders 2), .inl (cI, 20, .inl ((va_up a_t_holders 5 (upd (a_t_holders 5) p1.toNatClampNeg p2)) 2))), ((d_t_holders 3), .inr (2, [.int (t_holders_sort 3), .long (t_holders_tree 3), .int (t_holders_limit 3), .ref (q_t_holders 3), .long (t_holders_above 3), .int (t_holders_size 3)])), ((q_t_holders 3), .inl (cI, 20, .inl ((va_up a_t_holders 5 (upd (a_t_holders 5) p1.toNatClampNeg p2)) 3))), ((d_t_holders 4), .inr (2, [.int (t_holders_sort 4), .long (t_holders_tree 4), .int (t_holders_limit 4), .ref (q_t_holders 4), .long (t_holders_above 4), .int (t_holders_size 4)])), ((q_t_holders 4), .inl (cI, 20, .inl ((va_up a_t_holders 5 (upd (a_t_holders 5) p1.toNatClampNeg p2)) 4))), ((d_t_holders 5), .inr (2, [.int (t_holders_sort 5), .long (t_holders_tree 5), .int (t_holders_limit 5), .ref (q_t_holders 5), .long (t_holders_above 5), .int (t_holders_size 5)])), ((q_t_holders 5), .inl (cI, 20, .inl ((va_up a_t_holders 5 (upd (a_t_holders 5) p1.toNatClampNeg p2)) 5)))] H := hP
    have hD : va_D A [(h_t, .inr (7, [.ref h_t_desk, .ref h_t_imageDesk, .ref h_t_deeds, .ref h_t_numbers, .ref h_t_tape, .ref h_t_reader, .ref h_t_speller, .ref h_t_holders, .int t_imageKept])), (h_t_holders, .inl (cH, 6, .inr (.inr (.inr (.inr (fun i => some (d_t_holders i))))))), ((d_t_holders 0), .inr (2, [.int (t_holders_sort 0), .long (t_holders_tree 0), .int (t_holders_limit 0), .ref (q_t_holders 0), .long (t_holders_above 0), .int (t_holders_size 0)])), ((q_t_holders 0), .inl (cI, 20, .inl ((va_up a_t_holders 5 (upd (a_t_holders 5) p1.toNatClampNeg p2)) 0))), ((d_t_holders 1), .inr (2, [.int (t_holders_sort 1), .long (t_holders_tree 1), .int (t_holders_limit 1), .ref (q_t_holders 1), .long (t_holders_above 1), .int (t_holders_size 1)])), ((q_t_holders 1), .inl (cI, 20, .inl ((va_up a_t_holders 5 (upd (a_t_holders 5) p1.toNatClampNeg p2)) 1))), ((d_t_holders 2), .inr (2, [.int (t_holders_sort 2), .long (t_holders_tree 2), .int (t_holders_limit 2), .ref (q_t_holders 2), .long (t_holders_above 2), .int (t_holders_size 2)])), ((q_t_holders 2), .inl (cI, 20, .inl ((va_up a_t_holders 5 (upd (a_t_holders 5) p1.toNatClampNeg p2)) 2))), ((d_t_holders 3), .inr (2, [.int (t_holders_sort 3), .long (t_holders_tree 3), .int (t_holders_limit 3), .ref (q_t_holders 3), .long (t_holders_above 3), .int (t_holders_size 3)])), ((q_t_holders 3), .inl (cI, 20, .inl ((va_up a_t_holders 5 (upd (a_t_holders 5) p1.toNatClampNeg p2)) 3))), ((d_t_holders 4), .inr (2, [.int (t_holders_sort 4), .long (t_holders_tree 4), .int (t_holders_limit 4), .ref (q_t_holders 4), .long (t_holders_above 4), .int (t_holders_size 4)])), ((q_t_holders 4), .inl (cI, 20, .inl ((va_up a_t_holders 5 (upd (a_t_holders 5) p1.toNatClampNeg p2)) 4))), ((d_t_holders 5), .inr (2, [.int (t_holders_sort 5), .long (t_holders_tree 5), .int (t_holders_limit 5), .ref (q_t_holders 5), .long (t_holders_above 5), .int (t_holders_size 5)])), ((q_t_holders 5), .inl (cI, 20, .inl ((va_up a_t_holders 5 (upd (a_t_holders 5) p1.toNatClampNeg p2)) 5)))] := hD
    refine lv_iconst (v := (1 : Int32)) hx hb dX8_set_48 (by decide) ?_
    cases h
    exact k_iret hx hb hr hlocks hP hS rfl dX8_set_49
  · refine k_VqU (n := 1) (As := [.int p0]) (rest := []) hx hb hml hown hts (c_X8_holderAt l G cI cJ cD cH s.heap.size h_t h_t_holders h_t_desk h_t_imageDesk h_t_deeds h_t_numbers h_t_tape h_t_reader h_t_speller d_t_holders q_t_holders a_t_holders t_holders_sort t_holders_tree t_holders_limit t_holders_above t_holders_size t_imageKept p0 6 hx1) gX8_set_X8_holderAt rfl rfl rfl (by decide +kernel) ⟨by first | exact Nat.le_of_ble_eq_true rfl | (simp only [headSpec]; omega), by first | exact Nat.le_of_ble_eq_true rfl | (simp only [headSpec]; omega)⟩ hK hP hD hS hA [0, 1, 2, 3, 4, 5, 6, 7, 8, 9, 10, 11, 12, 13] (by decide) rfl (ci := 7) rfl rfl rfl rfl rfl hl.1 (Nat.le_of_ble_eq_true rfl) dX8_set_2 ⟨Nat.zero_le _, Nat.zero_le _⟩ (fun hp1 H locs hP hS => ?_)
    refine W.eq (g2 := F0 m 5 ls [.null]) rfl ?_
    have h := it_p h rfl
    refine lv_astoreN (lv' := [(4, .null), (0, .ref h_t), (1, .int p0), (2, .int p1), (3, .int p2)]) hx hb dX8_set_5 hl (by decide) rfl (fun ls hl => ?_)
    refine lv_aloadN hx hb dX8_set_7 (lv_at hl 0 rfl) ?_
    refine lv_iconst (v := (3 : Int32)) hx hb dX8_set_9 (by decide) ?_
    obtain ⟨x7, hx7, h⟩ := bd_e h
    try dsimp only at h
    refine k_SiU (n := 2) (As := [.null, .int (3 : Int32)]) (rest := []) hx hb hml hown hts (c_X8_refusalOfN l G cI cJ cD cH H.size (3 : Int32) x7 hx7) gX8_set_X8_refusalOf rfl rfl rfl (by decide +kernel) ⟨by first | exact Nat.le_of_ble_eq_true rfl | (simp only [headSpec]; omega), by first | exact Nat.le_of_ble_eq_true rfl | (simp only [headSpec]; omega)⟩ hK hP hD hS hA [] (by decide) rfl rfl rfl hl.1 (Nat.le_of_ble_eq_true rfl) dX8_set_10 ⟨Nat.zero_le _, Nat.zero_le _⟩ (fun hp7 H locs hP hS => ?_)
    refine lv_istore (lv' := [(5, .int x7), (4, .null), (0, .ref h_t), (1, .int p0), (2, .int p1), (3, .int p2)]) hx hb dX8_set_13 hl (by decide) rfl (fun ls hl => ?_)
    refine lv_aloadN hx hb dX8_set_15 (lv_at hl 1 rfl) ?_
    refine lv_ifnullN (tgt := 25) hx hb dX8_set_17 (by decide) ?_
    refine lv_iload hx hb dX8_set_25 (lv_at hl 0 rfl) ?_
    cases h
    exact k_iret hx hb hr hlocks hP hS rfl dX8_set_27

/-! X8_get -/
noncomputable def F_X8_get (a_t_holders : Nat → Nat → Int32) (t_holders_sort : Nat → Int32) (t_holders_size : Nat → Int32) (p0 : Int32) (p1 : Int32) : Option (Int64) :=
  bd (F_X8_holderAt p0) (fun x1 => if x1 = 6 then (some (-9223372036854775808 : Int64)) else (if (t_holders_sort x1) = (3 : Int32) then (bd (F_X2_hasPlace (t_holders_size x1) p1) (fun x3 => if x3 = 0 then (some (-9223372036854775808 : Int64)) else (ck p1 20 (some ((a_t_holders x1) p1.toNatClampNeg).toInt64)))) else (some (-9223372036854775808 : Int64))))
theorem in_X8_get_X2 : ∀ w ∈ wsX20, w ∈ wsX8_get := mem_r _ [16, 17, 18, 19, 20, 21] (by decide +kernel)
set_option maxHeartbeats 40000000 in
set_option maxRecDepth 100000 in
theorem c_X8_get (l : Launch) (G : va_G) (cI cJ cD cH : ClassId) (sz : Nat) (h_t : Nat) (h_t_holders : Nat) (h_t_desk : Nat) (h_t_imageDesk : Nat) (h_t_deeds : Nat) (h_t_numbers : Nat) (h_t_tape : Nat) (h_t_reader : Nat) (h_t_speller : Nat) (d_t_holders : Nat → Nat) (q_t_holders : Nat → Nat) (a_t_holders : Nat → Nat → Int32) (t_holders_sort : Nat → Int32) (t_holders_tree : Nat → Int64) (t_holders_limit : Nat → Int32) (t_holders_above : Nat → Int64) (t_holders_size : Nat → Int32) (t_imageKept : Int32) (p0 : Int32) (p1 : Int32) (r0 : Int64) (hF : F_X8_get a_t_holders t_holders_sort t_holders_size p0 p1 = some r0) : Met l yX8_get wsX8_get ({ frames := 1, cells := 0, slots := 0, locals := 21 }) (k_pre G (k_T cI cJ cD cH) [(h_t, .inr (7, [.ref h_t_desk, .ref h_t_imageDesk, .ref h_t_deeds, .ref h_t_numbers, .ref h_t_tape, .ref h_t_reader, .ref h_t_speller, .ref h_t_holders, .int t_imageKept])), (h_t_holders, .inl (cH, 6, .inr (.inr (.inr (.inr (fun i => some (d_t_holders i))))))), ((d_t_holders 0), .inr (2, [.int (t_holders_sort 0), .long (t_holders_tree 0), .int (t_holders_limit 0), .ref (q_t_holders 0), .long (t_holders_above 0), .int (t_holders_size 0)])), ((q_t_holders 0), .inl (cI, 20, .inl (a_t_holders 0))), ((d_t_holders 1), .inr (2, [.int (t_holders_sort 1), .long (t_holders_tree 1), .int (t_holders_limit 1), .ref (q_t_holders 1), .long (t_holders_above 1), .int (t_holders_size 1)])), ((q_t_holders 1), .inl (cI, 20, .inl (a_t_holders 1))), ((d_t_holders 2), .inr (2, [.int (t_holders_sort 2), .long (t_holders_tree 2), .int (t_holders_limit 2), .ref (q_t_holders 2), .long (t_holders_above 2), .int (t_holders_size 2)])), ((q_t_holders 2), .inl (cI, 20, .inl (a_t_holders 2))), ((d_t_holders 3), .inr (2, [.int (t_holders_sort 3), .long (t_holders_tree 3), .int (t_holders_limit 3), .ref (q_t_holders 3), .long (t_holders_above 3), .int (t_holders_size 3)])), ((q_t_holders 3), .inl (cI, 20, .inl (a_t_holders 3))), ((d_t_holders 4), .inr (2, [.int (t_holders_sort 4), .long (t_holders_tree 4), .int (t_holders_limit 4), .ref (q_t_holders 4), .long (t_holders_above 4), .int (t_holders_size 4)])), ((q_t_holders 4), .inl (cI, 20, .inl (a_t_holders 4))), ((d_t_holders 5), .inr (2, [.int (t_holders_sort 5), .long (t_holders_tree 5), .int (t_holders_limit 5), .ref (q_t_holders 5), .long (t_holders_above 5), .int (t_holders_size 5)])), ((q_t_holders 5), .inl (cI, 20, .inl (a_t_holders 5)))] sz [.ref h_t, .int p0, .int p1]) (va_Ql (fun r (_ : Unit) => r = r0 ∧ True) (fun _ t => va_P G vwCl [(h_t, .inr (7, [.ref h_t_desk, .ref h_t_imageDesk, .ref h_t_deeds, .ref h_t_numbers, .ref h_t_tape, .ref h_t_reader, .ref h_t_speller, .ref h_t_holders, .int t_imageKept])), (h_t_holders, .inl (cH, 6, .inr (.inr (.inr (.inr (fun i => some (d_t_holders i))))))), ((d_t_holders 0), .inr (2, [.int (t_holders_sort 0), .long (t_holders_tree 0), .int (t_holders_limit 0), .ref (q_t_holders 0), .long (t_holders_above 0), .int (t_holders_size 0)])), ((q_t_holders 0), .inl (cI, 20, .inl (a_t_holders 0))), ((d_t_holders 1), .inr (2, [.int (t_holders_sort 1), .long (t_holders_tree 1), .int (t_holders_limit 1), .ref (q_t_holders 1), .long (t_holders_above 1), .int (t_holders_size 1)])), ((q_t_holders 1), .inl (cI, 20, .inl (a_t_holders 1))), ((d_t_holders 2), .inr (2, [.int (t_holders_sort 2), .long (t_holders_tree 2), .int (t_holders_limit 2), .ref (q_t_holders 2), .long (t_holders_above 2), .int (t_holders_size 2)])), ((q_t_holders 2), .inl (cI, 20, .inl (a_t_holders 2))), ((d_t_holders 3), .inr (2, [.int (t_holders_sort 3), .long (t_holders_tree 3), .int (t_holders_limit 3), .ref (q_t_holders 3), .long (t_holders_above 3), .int (t_holders_size 3)])), ((q_t_holders 3), .inl (cI, 20, .inl (a_t_holders 3))), ((d_t_holders 4), .inr (2, [.int (t_holders_sort 4), .long (t_holders_tree 4), .int (t_holders_limit 4), .ref (q_t_holders 4), .long (t_holders_above 4), .int (t_holders_size 4)])), ((q_t_holders 4), .inl (cI, 20, .inl (a_t_holders 4))), ((d_t_holders 5), .inr (2, [.int (t_holders_sort 5), .long (t_holders_tree 5), .int (t_holders_limit 5), .ref (q_t_holders 5), .long (t_holders_above 5), .int (t_holders_size 5)])), ((q_t_holders 5), .inl (cI, 20, .inl (a_t_holders 5)))] t.heap) (va_A [(h_t, .inr (7, [.ref h_t_desk, .ref h_t_imageDesk, .ref h_t_deeds, .ref h_t_numbers, .ref h_t_tape, .ref h_t_reader, .ref h_t_speller, .ref h_t_holders, .int t_imageKept])), (h_t_holders, .inl (cH, 6, .inr (.inr (.inr (.inr (fun i => some (d_t_holders i))))))), ((d_t_holders 0), .inr (2, [.int (t_holders_sort 0), .long (t_holders_tree 0), .int (t_holders_limit 0), .ref (q_t_holders 0), .long (t_holders_above 0), .int (t_holders_size 0)])), ((q_t_holders 0), .inl (cI, 20, .inl (a_t_holders 0))), ((d_t_holders 1), .inr (2, [.int (t_holders_sort 1), .long (t_holders_tree 1), .int (t_holders_limit 1), .ref (q_t_holders 1), .long (t_holders_above 1), .int (t_holders_size 1)])), ((q_t_holders 1), .inl (cI, 20, .inl (a_t_holders 1))), ((d_t_holders 2), .inr (2, [.int (t_holders_sort 2), .long (t_holders_tree 2), .int (t_holders_limit 2), .ref (q_t_holders 2), .long (t_holders_above 2), .int (t_holders_size 2)])), ((q_t_holders 2), .inl (cI, 20, .inl (a_t_holders 2))), ((d_t_holders 3), .inr (2, [.int (t_holders_sort 3), .long (t_holders_tree 3), .int (t_holders_limit 3), .ref (q_t_holders 3), .long (t_holders_above 3), .int (t_holders_size 3)])), ((q_t_holders 3), .inl (cI, 20, .inl (a_t_holders 3))), ((d_t_holders 4), .inr (2, [.int (t_holders_sort 4), .long (t_holders_tree 4), .int (t_holders_limit 4), .ref (q_t_holders 4), .long (t_holders_above 4), .int (t_holders_size 4)])), ((q_t_holders 4), .inl (cI, 20, .inl (a_t_holders 4))), ((d_t_holders 5), .inr (2, [.int (t_holders_sort 5), .long (t_holders_tree 5), .int (t_holders_limit 5), .ref (q_t_holders 5), .long (t_holders_above 5), .int (t_holders_size 5)])), ((q_t_holders 5), .inl (cI, 20, .inl (a_t_holders 5)))] sz)) 0 0 (va_A [(h_t, .inr (7, [.ref h_t_desk, .ref h_t_imageDesk, .ref h_t_deeds, .ref h_t_numbers, .ref h_t_tape, .ref h_t_reader, .ref h_t_speller, .ref h_t_holders, .int t_imageKept])), (h_t_holders, .inl (cH, 6, .inr (.inr (.inr (.inr (fun i => some (d_t_holders i))))))), ((d_t_holders 0), .inr (2, [.int (t_holders_sort 0), .long (t_holders_tree 0), .int (t_holders_limit 0), .ref (q_t_holders 0), .long (t_holders_above 0), .int (t_holders_size 0)])), ((q_t_holders 0), .inl (cI, 20, .inl (a_t_holders 0))), ((d_t_holders 1), .inr (2, [.int (t_holders_sort 1), .long (t_holders_tree 1), .int (t_holders_limit 1), .ref (q_t_holders 1), .long (t_holders_above 1), .int (t_holders_size 1)])), ((q_t_holders 1), .inl (cI, 20, .inl (a_t_holders 1))), ((d_t_holders 2), .inr (2, [.int (t_holders_sort 2), .long (t_holders_tree 2), .int (t_holders_limit 2), .ref (q_t_holders 2), .long (t_holders_above 2), .int (t_holders_size 2)])), ((q_t_holders 2), .inl (cI, 20, .inl (a_t_holders 2))), ((d_t_holders 3), .inr (2, [.int (t_holders_sort 3), .long (t_holders_tree 3), .int (t_holders_limit 3), .ref (q_t_holders 3), .long (t_holders_above 3), .int (t_holders_size 3)])), ((q_t_holders 3), .inl (cI, 20, .inl (a_t_holders 3))), ((d_t_holders 4), .inr (2, [.int (t_holders_sort 4), .long (t_holders_tree 4), .int (t_holders_limit 4), .ref (q_t_holders 4), .long (t_holders_above 4), .int (t_holders_size 4)])), ((q_t_holders 4), .inl (cI, 20, .inl (a_t_holders 4))), ((d_t_holders 5), .inr (2, [.int (t_holders_sort 5), .long (t_holders_tree 5), .int (t_holders_limit 5), .ref (q_t_holders 5), .long (t_holders_above 5), .int (t_holders_size 5)])), ((q_t_holders 5), .inl (cI, 20, .inl (a_t_holders 5)))] sz) := by
  refine Met.ofW (cc := cX8_get) (maxL := 4) (ret := (some .long)) (by decide) rfl ?_
  intro p e s m args below meth c s₁ B hml hv
  obtain ⟨rfl, hsz, hP, hK, hD0⟩ := hv
  have hx := B.exec
  have hb := B.bytes
  have hr := B.returns
  have hts := atoms_spec (ws := wsX8_get) B.pre
  have hown : s.vm.findClass RX8 = some m.cls := findClass_of_methodNamed B.named
  have hlocks := B.notSynchronized
  subst hsz
  have hD := hD0.self (sz := s.heap.size)
  generalize hAe : va_A [(h_t, .inr (7, [.ref h_t_desk, .ref h_t_imageDesk, .ref h_t_deeds, .ref h_t_numbers, .ref h_t_tape, .ref h_t_reader, .ref h_t_speller, .ref h_t_holders, .int t_imageKept])), (h_t_holders, .inl (cH, 6, .inr (.inr (.inr (.inr (fun i => some (d_t_holders i))))))), ((d_t_holders 0), .inr (2, [.int (t_holders_sort 0), .long (t_holders_tree 0), .int (t_holders_limit 0), .ref (q_t_holders 0), .long (t_holders_above 0), .int (t_holders_size 0)])), ((q_t_holders 0), .inl (cI, 20, .inl (a_t_holders 0))), ((d_t_holders 1), .inr (2, [.int (t_holders_sort 1), .long (t_holders_tree 1), .int (t_holders_limit 1), .ref (q_t_holders 1), .long (t_holders_above 1), .int (t_holders_size 1)])), ((q_t_holders 1), .inl (cI, 20, .inl (a_t_holders 1))), ((d_t_holders 2), .inr (2, [.int (t_holders_sort 2), .long (t_holders_tree 2), .int (t_holders_limit 2), .ref (q_t_holders 2), .long (t_holders_above 2), .int (t_holders_size 2)])), ((q_t_holders 2), .inl (cI, 20, .inl (a_t_holders 2))), ((d_t_holders 3), .inr (2, [.int (t_holders_sort 3), .long (t_holders_tree 3), .int (t_holders_limit 3), .ref (q_t_holders 3), .long (t_holders_above 3), .int (t_holders_size 3)])), ((q_t_holders 3), .inl (cI, 20, .inl (a_t_holders 3))), ((d_t_holders 4), .inr (2, [.int (t_holders_sort 4), .long (t_holders_tree 4), .int (t_holders_limit 4), .ref (q_t_holders 4), .long (t_holders_above 4), .int (t_holders_size 4)])), ((q_t_holders 4), .inl (cI, 20, .inl (a_t_holders 4))), ((d_t_holders 5), .inr (2, [.int (t_holders_sort 5), .long (t_holders_tree 5), .int (t_holders_limit 5), .ref (q_t_holders 5), .long (t_holders_above 5), .int (t_holders_size 5)])), ((q_t_holders 5), .inl (cI, 20, .inl (a_t_holders 5)))] s.heap.size = A at hD ⊢
  have hA : ∀ q : Nat, s.heap.size ≤ q → A q := fun q h => by rw [← hAe]; exact Or.inr h
  have hS : va_S A s.heap s.heap [] := va_S.rf
  have hl := lv_entry ([.ref h_t, .int p0, .int p1]) (n := 4) (Nat.le_of_ble_eq_true rfl)
  rw [lg_entry_eq]
  generalize (lg_sl ([.ref h_t, .int p0, .int p1]) ++ List.replicate (4 - (lg_sl ([.ref h_t, .int p0, .int p1])).length) Slot.unset).toArray = ls at hl ⊢
  have hl : lv_has ls 4 [(0, .ref h_t), (1, .int p0), (2, .int p1)] := hl
  have hinX2 : ∀ w ∈ wsX20, w ∈ wsX8_get := in_X8_get_X2
  have h := hF
  unfold F_X8_get at h
  refine lv_aload_n hx hb dX8_get_0 rfl (lv_at hl 0 rfl) ?_
  refine lv_iload_n hx hb dX8_get_1 rfl (lv_at hl 1 rfl) ?_
  obtain ⟨x1, hx1, h⟩ := bd_e h
  try dsimp only at h
  have hb1 := k_lt_X8_holderAt hx1
  obtain rfl | rfl | rfl | rfl | rfl | rfl | rfl := k_lt7 hb1
  · refine k_VqU (n := 1) (As := [.int p0]) (rest := []) hx hb hml hown hts (c_X8_holderAt l G cI cJ cD cH s.heap.size h_t h_t_holders h_t_desk h_t_imageDesk h_t_deeds h_t_numbers h_t_tape h_t_reader h_t_speller d_t_holders q_t_holders a_t_holders t_holders_sort t_holders_tree t_holders_limit t_holders_above t_holders_size t_imageKept p0 0 hx1) gX8_get_X8_holderAt rfl rfl rfl (by decide +kernel) ⟨by first | exact Nat.le_of_ble_eq_true rfl | (simp only [headSpec]; omega), by first | exact Nat.le_of_ble_eq_true rfl | (simp only [headSpec]; omega)⟩ hK hP hD hS hA [0, 1, 2, 3, 4, 5, 6, 7, 8, 9, 10, 11, 12, 13] (by decide) rfl (ci := 7) rfl rfl rfl rfl rfl hl.1 (Nat.le_of_ble_eq_true rfl) dX8_get_2 ⟨Nat.zero_le _, Nat.zero_le _⟩ (fun hp1 H locs hP hS => ?_)
    refine W.eq (g2 := F0 m 5 ls [.ref (d_t_holders 0)]) rfl ?_
    have h := it_n h (by decide)
    refine lv_astore_n (lv' := [(3, .ref (d_t_holders 0)), (0, .ref h_t), (1, .int p0), (2, .int p1)]) hx hb dX8_get_5 rfl hl (by decide) rfl (fun ls hl => ?_)
    refine lv_aload_n hx hb dX8_get_6 rfl (lv_at hl 0 rfl) ?_
    refine lv_ifnull hx hb dX8_get_7 ?_
    refine lv_aload_n hx hb dX8_get_10 rfl (lv_at hl 0 rfl) ?_
    refine va_get (D := G) (ci := 2) (v := .int (t_holders_sort 0)) (C := RX2) (T := TX2) (N := 6) hx hb hts hinX2 hown hK hP 2 rfl rfl 0 (by decide) (hts (.fieldLink RX8 267 "MarkedCurves$Holder" "sort" "I") (List.mem_of_getElem? (i := 1) (by decide +kernel))) (fun _ h9 => h9) rfl dX8_get_11 ?_
    refine lv_iconst (v := (3 : Int32)) hx hb dX8_get_14 (by decide) ?_
    refine lv_icmp_ne (tgt := 26) hx hb dX8_get_15 (by decide) (fun c2 => ?_) (fun c2 => ?_)
    · have h := it_n h c2
      refine lv_ldc2 (v := (-9223372036854775808 : Int64)) hx hb hown (hts (.constantLong RX8 114 (-9223372036854775808)) (List.mem_of_getElem? (i := 2) (by decide +kernel))) dX8_get_26 ?_
      cases h
      exact k_lret hx hb hr hlocks hP hS rfl dX8_get_29
    have h := it_p h c2
    refine lv_aload_n hx hb dX8_get_18 rfl (lv_at hl 0 rfl) ?_
    refine lv_iload_n hx hb dX8_get_19 rfl (lv_at hl 3 rfl) ?_
    obtain ⟨x3, hx3, h⟩ := bd_e h
    try dsimp only at h
    refine k_ViU (n := 1) (As := [.int p1]) (rest := []) hx hb hml hown hts (c_X2_hasPlace l G cI cJ cD cH H.size (d_t_holders 0) (q_t_holders 0) (t_holders_sort 0) (t_holders_tree 0) (t_holders_limit 0) (t_holders_above 0) (t_holders_size 0) p1 x3 hx3) gX8_get_X2_hasPlace rfl rfl rfl (by decide +kernel) ⟨by first | exact Nat.le_of_ble_eq_true rfl | (simp only [headSpec]; omega), by first | exact Nat.le_of_ble_eq_true rfl | (simp only [headSpec]; omega)⟩ hK hP hD hS hA [2] (by decide) rfl (ci := 2) rfl rfl rfl rfl rfl hl.1 (Nat.le_of_ble_eq_true rfl) dX8_get_20 ⟨Nat.zero_le _, Nat.zero_le _⟩ (fun hp3 H locs hP hS => ?_)
    refine lv_if_ne (tgt := 30) hx hb dX8_get_23 (by decide) (fun c4 => ?_) (fun c4 => ?_)
    rotate_left
    · have h := it_p h c4
      refine lv_ldc2 (v := (-9223372036854775808 : Int64)) hx hb hown (hts (.constantLong RX8 114 (-9223372036854775808)) (List.mem_of_getElem? (i := 2) (by decide +kernel))) dX8_get_26 ?_
      cases h
      exact k_lret hx hb hr hlocks hP hS rfl dX8_get_29
    have h := it_n h c4
    refine lv_aload_n hx hb dX8_get_30 rfl (lv_at hl 0 rfl) ?_
    refine va_get (D := G) (ci := 2) (v := .ref (q_t_holders 0)) (C := RX2) (T := TX2) (N := 6) hx hb hts hinX2 hown hK hP 2 rfl rfl 3 (by decide) (hts (.fieldLink RX8 288 "MarkedCurves$Holder" "ints" "[I") (List.mem_of_getElem? (i := 3) (by decide +kernel))) (fun _ h9 => h9) rfl dX8_get_31 ?_
    refine lv_iload_n hx hb dX8_get_34 rfl (lv_at hl 3 rfl) ?_
    obtain ⟨hn5, h⟩ := ck_e h
    refine va_iald hx hb hK hP 3 0 rfl rfl hn5 dX8_get_35 ?_
    refine lv_i2l (v := ((a_t_holders 0) p1.toNatClampNeg).toInt64) hx hb dX8_get_36 (by first | rfl | decide) ?_
    cases h
    exact k_lret hx hb hr hlocks hP hS rfl dX8_get_37
  · refine k_VqU (n := 1) (As := [.int p0]) (rest := []) hx hb hml hown hts (c_X8_holderAt l G cI cJ cD cH s.heap.size h_t h_t_holders h_t_desk h_t_imageDesk h_t_deeds h_t_numbers h_t_tape h_t_reader h_t_speller d_t_holders q_t_holders a_t_holders t_holders_sort t_holders_tree t_holders_limit t_holders_above t_holders_size t_imageKept p0 1 hx1) gX8_get_X8_holderAt rfl rfl rfl (by decide +kernel) ⟨by first | exact Nat.le_of_ble_eq_true rfl | (simp only [headSpec]; omega), by first | exact Nat.le_of_ble_eq_true rfl | (simp only [headSpec]; omega)⟩ hK hP hD hS hA [0, 1, 2, 3, 4, 5, 6, 7, 8, 9, 10, 11, 12, 13] (by decide) rfl (ci := 7) rfl rfl rfl rfl rfl hl.1 (Nat.le_of_ble_eq_true rfl) dX8_get_2 ⟨Nat.zero_le _, Nat.zero_le _⟩ (fun hp1 H locs hP hS => ?_)
    refine W.eq (g2 := F0 m 5 ls [.ref (d_t_holders 1)]) rfl ?_
    have h := it_n h (by decide)
    refine lv_astore_n (lv' := [(3, .ref (d_t_holders 1)), (0, .ref h_t), (1, .int p0), (2, .int p1)]) hx hb dX8_get_5 rfl hl (by decide) rfl (fun ls hl => ?_)
    refine lv_aload_n hx hb dX8_get_6 rfl (lv_at hl 0 rfl) ?_
    refine lv_ifnull hx hb dX8_get_7 ?_
    refine lv_aload_n hx hb dX8_get_10 rfl (lv_at hl 0 rfl) ?_
    refine va_get (D := G) (ci := 2) (v := .int (t_holders_sort 1)) (C := RX2) (T := TX2) (N := 6) hx hb hts hinX2 hown hK hP 4 rfl rfl 0 (by decide) (hts (.fieldLink RX8 267 "MarkedCurves$Holder" "sort" "I") (List.mem_of_getElem? (i := 1) (by decide +kernel))) (fun _ h9 => h9) rfl dX8_get_11 ?_
    refine lv_iconst (v := (3 : Int32)) hx hb dX8_get_14 (by decide) ?_
    refine lv_icmp_ne (tgt := 26) hx hb dX8_get_15 (by decide) (fun c2 => ?_) (fun c2 => ?_)
    · have h := it_n h c2
      refine lv_ldc2 (v := (-9223372036854775808 : Int64)) hx hb hown (hts (.constantLong RX8 114 (-9223372036854775808)) (List.mem_of_getElem? (i := 2) (by decide +kernel))) dX8_get_26 ?_
      cases h
      exact k_lret hx hb hr hlocks hP hS rfl dX8_get_29
    have h := it_p h c2
    refine lv_aload_n hx hb dX8_get_18 rfl (lv_at hl 0 rfl) ?_
    refine lv_iload_n hx hb dX8_get_19 rfl (lv_at hl 3 rfl) ?_
    obtain ⟨x3, hx3, h⟩ := bd_e h
    try dsimp only at h
    refine k_ViU (n := 1) (As := [.int p1]) (rest := []) hx hb hml hown hts (c_X2_hasPlace l G cI cJ cD cH H.size (d_t_holders 1) (q_t_holders 1) (t_holders_sort 1) (t_holders_tree 1) (t_holders_limit 1) (t_holders_above 1) (t_holders_size 1) p1 x3 hx3) gX8_get_X2_hasPlace rfl rfl rfl (by decide +kernel) ⟨by first | exact Nat.le_of_ble_eq_true rfl | (simp only [headSpec]; omega), by first | exact Nat.le_of_ble_eq_true rfl | (simp only [headSpec]; omega)⟩ hK hP hD hS hA [4] (by decide) rfl (ci := 2) rfl rfl rfl rfl rfl hl.1 (Nat.le_of_ble_eq_true rfl) dX8_get_20 ⟨Nat.zero_le _, Nat.zero_le _⟩ (fun hp3 H locs hP hS => ?_)
    refine lv_if_ne (tgt := 30) hx hb dX8_get_23 (by decide) (fun c4 => ?_) (fun c4 => ?_)
    rotate_left
    · have h := it_p h c4
      refine lv_ldc2 (v := (-9223372036854775808 : Int64)) hx hb hown (hts (.constantLong RX8 114 (-9223372036854775808)) (List.mem_of_getElem? (i := 2) (by decide +kernel))) dX8_get_26 ?_
      cases h
      exact k_lret hx hb hr hlocks hP hS rfl dX8_get_29
    have h := it_n h c4
    refine lv_aload_n hx hb dX8_get_30 rfl (lv_at hl 0 rfl) ?_
    refine va_get (D := G) (ci := 2) (v := .ref (q_t_holders 1)) (C := RX2) (T := TX2) (N := 6) hx hb hts hinX2 hown hK hP 4 rfl rfl 3 (by decide) (hts (.fieldLink RX8 288 "MarkedCurves$Holder" "ints" "[I") (List.mem_of_getElem? (i := 3) (by decide +kernel))) (fun _ h9 => h9) rfl dX8_get_31 ?_
    refine lv_iload_n hx hb dX8_get_34 rfl (lv_at hl 3 rfl) ?_
    obtain ⟨hn5, h⟩ := ck_e h
    refine va_iald hx hb hK hP 5 0 rfl rfl hn5 dX8_get_35 ?_
    refine lv_i2l (v := ((a_t_holders 1) p1.toNatClampNeg).toInt64) hx hb dX8_get_36 (by first | rfl | decide) ?_
    cases h
    exact k_lret hx hb hr hlocks hP hS rfl dX8_get_37
  · refine k_VqU (n := 1) (As := [.int p0]) (rest := []) hx hb hml hown hts (c_X8_holderAt l G cI cJ cD cH s.heap.size h_t h_t_holders h_t_desk h_t_imageDesk h_t_deeds h_t_numbers h_t_tape h_t_reader h_t_speller d_t_holders q_t_holders a_t_holders t_holders_sort t_holders_tree t_holders_limit t_holders_above t_holders_size t_imageKept p0 2 hx1) gX8_get_X8_holderAt rfl rfl rfl (by decide +kernel) ⟨by first | exact Nat.le_of_ble_eq_true rfl | (simp only [headSpec]; omega), by first | exact Nat.le_of_ble_eq_true rfl | (simp only [headSpec]; omega)⟩ hK hP hD hS hA [0, 1, 2, 3, 4, 5, 6, 7, 8, 9, 10, 11, 12, 13] (by decide) rfl (ci := 7) rfl rfl rfl rfl rfl hl.1 (Nat.le_of_ble_eq_true rfl) dX8_get_2 ⟨Nat.zero_le _, Nat.zero_le _⟩ (fun hp1 H locs hP hS => ?_)
    refine W.eq (g2 := F0 m 5 ls [.ref (d_t_holders 2)]) rfl ?_
    have h := it_n h (by decide)
    refine lv_astore_n (lv' := [(3, .ref (d_t_holders 2)), (0, .ref h_t), (1, .int p0), (2, .int p1)]) hx hb dX8_get_5 rfl hl (by decide) rfl (fun ls hl => ?_)
    refine lv_aload_n hx hb dX8_get_6 rfl (lv_at hl 0 rfl) ?_
    refine lv_ifnull hx hb dX8_get_7 ?_
    refine lv_aload_n hx hb dX8_get_10 rfl (lv_at hl 0 rfl) ?_
    refine va_get (D := G) (ci := 2) (v := .int (t_holders_sort 2)) (C := RX2) (T := TX2) (N := 6) hx hb hts hinX2 hown hK hP 6 rfl rfl 0 (by decide) (hts (.fieldLink RX8 267 "MarkedCurves$Holder" "sort" "I") (List.mem_of_getElem? (i := 1) (by decide +kernel))) (fun _ h9 => h9) rfl dX8_get_11 ?_
    refine lv_iconst (v := (3 : Int32)) hx hb dX8_get_14 (by decide) ?_
    refine lv_icmp_ne (tgt := 26) hx hb dX8_get_15 (by decide) (fun c2 => ?_) (fun c2 => ?_)
    · have h := it_n h c2
      refine lv_ldc2 (v := (-9223372036854775808 : Int64)) hx hb hown (hts (.constantLong RX8 114 (-9223372036854775808)) (List.mem_of_getElem? (i := 2) (by decide +kernel))) dX8_get_26 ?_
      cases h
      exact k_lret hx hb hr hlocks hP hS rfl dX8_get_29
    have h := it_p h c2
    refine lv_aload_n hx hb dX8_get_18 rfl (lv_at hl 0 rfl) ?_
    refine lv_iload_n hx hb dX8_get_19 rfl (lv_at hl 3 rfl) ?_
    obtain ⟨x3, hx3, h⟩ := bd_e h
    try dsimp only at h
    refine k_ViU (n := 1) (As := [.int p1]) (rest := []) hx hb hml hown hts (c_X2_hasPlace l G cI cJ cD cH H.size (d_t_holders 2) (q_t_holders 2) (t_holders_sort 2) (t_holders_tree 2) (t_holders_limit 2) (t_holders_above 2) (t_holders_size 2) p1 x3 hx3) gX8_get_X2_hasPlace rfl rfl rfl (by decide +kernel) ⟨by first | exact Nat.le_of_ble_eq_true rfl | (simp only [headSpec]; omega), by first | exact Nat.le_of_ble_eq_true rfl | (simp only [headSpec]; omega)⟩ hK hP hD hS hA [6] (by decide) rfl (ci := 2) rfl rfl rfl rfl rfl hl.1 (Nat.le_of_ble_eq_true rfl) dX8_get_20 ⟨Nat.zero_le _, Nat.zero_le _⟩ (fun hp3 H locs hP hS => ?_)
    refine lv_if_ne (tgt := 30) hx hb dX8_get_23 (by decide) (fun c4 => ?_) (fun c4 => ?_)
    rotate_left
    · have h := it_p h c4
      refine lv_ldc2 (v := (-9223372036854775808 : Int64)) hx hb hown (hts (.constantLong RX8 114 (-9223372036854775808)) (List.mem_of_getElem? (i := 2) (by decide +kernel))) dX8_get_26 ?_
      cases h
      exact k_lret hx hb hr hlocks hP hS rfl dX8_get_29
    have h := it_n h c4
    refine lv_aload_n hx hb dX8_get_30 rfl (lv_at hl 0 rfl) ?_
    refine va_get (D := G) (ci := 2) (v := .ref (q_t_holders 2)) (C := RX2) (T := TX2) (N := 6) hx hb hts hinX2 hown hK hP 6 rfl rfl 3 (by decide) (hts (.fieldLink RX8 288 "MarkedCurves$Holder" "ints" "[I") (List.mem_of_getElem? (i := 3) (by decide +kernel))) (fun _ h9 => h9) rfl dX8_get_31 ?_
    refine lv_iload_n hx hb dX8_get_34 rfl (lv_at hl 3 rfl) ?_
    obtain ⟨hn5, h⟩ := ck_e h
    refine va_iald hx hb hK hP 7 0 rfl rfl hn5 dX8_get_35 ?_
    refine lv_i2l (v := ((a_t_holders 2) p1.toNatClampNeg).toInt64) hx hb dX8_get_36 (by first | rfl | decide) ?_
    cases h
    exact k_lret hx hb hr hlocks hP hS rfl dX8_get_37
  · refine k_VqU (n := 1) (As := [.int p0]) (rest := []) hx hb hml hown hts (c_X8_holderAt l G cI cJ cD cH s.heap.size h_t h_t_holders h_t_desk h_t_imageDesk h_t_deeds h_t_numbers h_t_tape h_t_reader h_t_speller d_t_holders q_t_holders a_t_holders t_holders_sort t_holders_tree t_holders_limit t_holders_above t_holders_size t_imageKept p0 3 hx1) gX8_get_X8_holderAt rfl rfl rfl (by decide +kernel) ⟨by first | exact Nat.le_of_ble_eq_true rfl | (simp only [headSpec]; omega), by first | exact Nat.le_of_ble_eq_true rfl | (simp only [headSpec]; omega)⟩ hK hP hD hS hA [0, 1, 2, 3, 4, 5, 6, 7, 8, 9, 10, 11, 12, 13] (by decide) rfl (ci := 7) rfl rfl rfl rfl rfl hl.1 (Nat.le_of_ble_eq_true rfl) dX8_get_2 ⟨Nat.zero_le _, Nat.zero_le _⟩ (fun hp1 H locs hP hS => ?_)
    refine W.eq (g2 := F0 m 5 ls [.ref (d_t_holders 3)]) rfl ?_
    have h := it_n h (by decide)
    refine lv_astore_n (lv' := [(3, .ref (d_t_holders 3)), (0, .ref h_t), (1, .int p0), (2, .int p1)]) hx hb dX8_get_5 rfl hl (by decide) rfl (fun ls hl => ?_)
    refine lv_aload_n hx hb dX8_get_6 rfl (lv_at hl 0 rfl) ?_
    refine lv_ifnull hx hb dX8_get_7 ?_
    refine lv_aload_n hx hb dX8_get_10 rfl (lv_at hl 0 rfl) ?_
    refine va_get (D := G) (ci := 2) (v := .int (t_holders_sort 3)) (C := RX2) (T := TX2) (N := 6) hx hb hts hinX2 hown hK hP 8 rfl rfl 0 (by decide) (hts (.fieldLink RX8 267 "MarkedCurves$Holder" "sort" "I") (List.mem_of_getElem? (i := 1) (by decide +kernel))) (fun _ h9 => h9) rfl dX8_get_11 ?_
    refine lv_iconst (v := (3 : Int32)) hx hb dX8_get_14 (by decide) ?_
    refine lv_icmp_ne (tgt := 26) hx hb dX8_get_15 (by decide) (fun c2 => ?_) (fun c2 => ?_)
    · have h := it_n h c2
      refine lv_ldc2 (v := (-9223372036854775808 : Int64)) hx hb hown (hts (.constantLong RX8 114 (-9223372036854775808)) (List.mem_of_getElem? (i := 2) (by decide +kernel))) dX8_get_26 ?_
      cases h
      exact k_lret hx hb hr hlocks hP hS rfl dX8_get_29
    have h := it_p h c2
    refine lv_aload_n hx hb dX8_get_18 rfl (lv_at hl 0 rfl) ?_
    refine lv_iload_n hx hb dX8_get_19 rfl (lv_at hl 3 rfl) ?_
    obtain ⟨x3, hx3, h⟩ := bd_e h
    try dsimp only at h
    refine k_ViU (n := 1) (As := [.int p1]) (rest := []) hx hb hml hown hts (c_X2_hasPlace l G cI cJ cD cH H.size (d_t_holders 3) (q_t_holders 3) (t_holders_sort 3) (t_holders_tree 3) (t_holders_limit 3) (t_holders_above 3) (t_holders_size 3) p1 x3 hx3) gX8_get_X2_hasPlace rfl rfl rfl (by decide +kernel) ⟨by first | exact Nat.le_of_ble_eq_true rfl | (simp only [headSpec]; omega), by first | exact Nat.le_of_ble_eq_true rfl | (simp only [headSpec]; omega)⟩ hK hP hD hS hA [8] (by decide) rfl (ci := 2) rfl rfl rfl rfl rfl hl.1 (Nat.le_of_ble_eq_true rfl) dX8_get_20 ⟨Nat.zero_le _, Nat.zero_le _⟩ (fun hp3 H locs hP hS => ?_)
    refine lv_if_ne (tgt := 30) hx hb dX8_get_23 (by decide) (fun c4 => ?_) (fun c4 => ?_)
    rotate_left
    · have h := it_p h c4
      refine lv_ldc2 (v := (-9223372036854775808 : Int64)) hx hb hown (hts (.constantLong RX8 114 (-9223372036854775808)) (List.mem_of_getElem? (i := 2) (by decide +kernel))) dX8_get_26 ?_
      cases h
      exact k_lret hx hb hr hlocks hP hS rfl dX8_get_29
    have h := it_n h c4
    refine lv_aload_n hx hb dX8_get_30 rfl (lv_at hl 0 rfl) ?_
    refine va_get (D := G) (ci := 2) (v := .ref (q_t_holders 3)) (C := RX2) (T := TX2) (N := 6) hx hb hts hinX2 hown hK hP 8 rfl rfl 3 (by decide) (hts (.fieldLink RX8 288 "MarkedCurves$Holder" "ints" "[I") (List.mem_of_getElem? (i := 3) (by decide +kernel))) (fun _ h9 => h9) rfl dX8_get_31 ?_
    refine lv_iload_n hx hb dX8_get_34 rfl (lv_at hl 3 rfl) ?_
    obtain ⟨hn5, h⟩ := ck_e h
    refine va_iald hx hb hK hP 9 0 rfl rfl hn5 dX8_get_35 ?_
    refine lv_i2l (v := ((a_t_holders 3) p1.toNatClampNeg).toInt64) hx hb dX8_get_36 (by first | rfl | decide) ?_
    cases h
    exact k_lret hx hb hr hlocks hP hS rfl dX8_get_37
  · refine k_VqU (n := 1) (As := [.int p0]) (rest := []) hx hb hml hown hts (c_X8_holderAt l G cI cJ cD cH s.heap.size h_t h_t_holders h_t_desk h_t_imageDesk h_t_deeds h_t_numbers h_t_tape h_t_reader h_t_speller d_t_holders q_t_holders a_t_holders t_holders_sort t_holders_tree t_holders_limit t_holders_above t_holders_size t_imageKept p0 4 hx1) gX8_get_X8_holderAt rfl rfl rfl (by decide +kernel) ⟨by first | exact Nat.le_of_ble_eq_true rfl | (simp only [headSpec]; omega), by first | exact Nat.le_of_ble_eq_true rfl | (simp only [headSpec]; omega)⟩ hK hP hD hS hA [0, 1, 2, 3, 4, 5, 6, 7, 8, 9, 10, 11, 12, 13] (by decide) rfl (ci := 7) rfl rfl rfl rfl rfl hl.1 (Nat.le_of_ble_eq_true rfl) dX8_get_2 ⟨Nat.zero_le _, Nat.zero_le _⟩ (fun hp1 H locs hP hS => ?_)
    refine W.eq (g2 := F0 m 5 ls [.ref (d_t_holders 4)]) rfl ?_
    have h := it_n h (by decide)
    refine lv_astore_n (lv' := [(3, .ref (d_t_holders 4)), (0, .ref h_t), (1, .int p0), (2, .int p1)]) hx hb dX8_get_5 rfl hl (by decide) rfl (fun ls hl => ?_)
    refine lv_aload_n hx hb dX8_get_6 rfl (lv_at hl 0 rfl) ?_
    refine lv_ifnull hx hb dX8_get_7 ?_
    refine lv_aload_n hx hb dX8_get_10 rfl (lv_at hl 0 rfl) ?_
    refine va_get (D := G) (ci := 2) (v := .int (t_holders_sort 4)) (C := RX2) (T := TX2) (N := 6) hx hb hts hinX2 hown hK hP 10 rfl rfl 0 (by decide) (hts (.fieldLink RX8 267 "MarkedCurves$Holder" "sort" "I") (List.mem_of_getElem? (i := 1) (by decide +kernel))) (fun _ h9 => h9) rfl dX8_get_11 ?_
    refine lv_iconst (v := (3 : Int32)) hx hb dX8_get_14 (by decide) ?_
    refine lv_icmp_ne (tgt := 26) hx hb dX8_get_15 (by decide) (fun c2 => ?_) (fun c2 => ?_)
    · have h := it_n h c2
      refine lv_ldc2 (v := (-9223372036854775808 : Int64)) hx hb hown (hts (.constantLong RX8 114 (-9223372036854775808)) (List.mem_of_getElem? (i := 2) (by decide +kernel))) dX8_get_26 ?_
      cases h
      exact k_lret hx hb hr hlocks hP hS rfl dX8_get_29
    have h := it_p h c2
    refine lv_aload_n hx hb dX8_get_18 rfl (lv_at hl 0 rfl) ?_
    refine lv_iload_n hx hb dX8_get_19 rfl (lv_at hl 3 rfl) ?_
    obtain ⟨x3, hx3, h⟩ := bd_e h
    try dsimp only at h
    refine k_ViU (n := 1) (As := [.int p1]) (rest := []) hx hb hml hown hts (c_X2_hasPlace l G cI cJ cD cH H.size (d_t_holders 4) (q_t_holders 4) (t_holders_sort 4) (t_holders_tree 4) (t_holders_limit 4) (t_holders_above 4) (t_holders_size 4) p1 x3 hx3) gX8_get_X2_hasPlace rfl rfl rfl (by decide +kernel) ⟨by first | exact Nat.le_of_ble_eq_true rfl | (simp only [headSpec]; omega), by first | exact Nat.le_of_ble_eq_true rfl | (simp only [headSpec]; omega)⟩ hK hP hD hS hA [10] (by decide) rfl (ci := 2) rfl rfl rfl rfl rfl hl.1 (Nat.le_of_ble_eq_true rfl) dX8_get_20 ⟨Nat.zero_le _, Nat.zero_le _⟩ (fun hp3 H locs hP hS => ?_)
    refine lv_if_ne (tgt := 30) hx hb dX8_get_23 (by decide) (fun c4 => ?_) (fun c4 => ?_)
    rotate_left
    · have h := it_p h c4
      refine lv_ldc2 (v := (-9223372036854775808 : Int64)) hx hb hown (hts (.constantLong RX8 114 (-9223372036854775808)) (List.mem_of_getElem? (i := 2) (by decide +kernel))) dX8_get_26 ?_
      cases h
      exact k_lret hx hb hr hlocks hP hS rfl dX8_get_29
    have h := it_n h c4
    refine lv_aload_n hx hb dX8_get_30 rfl (lv_at hl 0 rfl) ?_
    refine va_get (D := G) (ci := 2) (v := .ref (q_t_holders 4)) (C := RX2) (T := TX2) (N := 6) hx hb hts hinX2 hown hK hP 10 rfl rfl 3 (by decide) (hts (.fieldLink RX8 288 "MarkedCurves$Holder" "ints" "[I") (List.mem_of_getElem? (i := 3) (by decide +kernel))) (fun _ h9 => h9) rfl dX8_get_31 ?_
    refine lv_iload_n hx hb dX8_get_34 rfl (lv_at hl 3 rfl) ?_
    obtain ⟨hn5, h⟩ := ck_e h
    refine va_iald hx hb hK hP 11 0 rfl rfl hn5 dX8_get_35 ?_
    refine lv_i2l (v := ((a_t_holders 4) p1.toNatClampNeg).toInt64) hx hb dX8_get_36 (by first | rfl | decide) ?_
    cases h
    exact k_lret hx hb hr hlocks hP hS rfl dX8_get_37
  · refine k_VqU (n := 1) (As := [.int p0]) (rest := []) hx hb hml hown hts (c_X8_holderAt l G cI cJ cD cH s.heap.size h_t h_t_holders h_t_desk h_t_imageDesk h_t_deeds h_t_numbers h_t_tape h_t_reader h_t_speller d_t_holders q_t_holders a_t_holders t_holders_sort t_holders_tree t_holders_limit t_holders_above t_holders_size t_imageKept p0 5 hx1) gX8_get_X8_holderAt rfl rfl rfl (by decide +kernel) ⟨by first | exact Nat.le_of_ble_eq_true rfl | (simp only [headSpec]; omega), by first | exact Nat.le_of_ble_eq_true rfl | (simp only [headSpec]; omega)⟩ hK hP hD hS hA [0, 1, 2, 3, 4, 5, 6, 7, 8, 9, 10, 11, 12, 13] (by decide) rfl (ci := 7) rfl rfl rfl rfl rfl hl.1 (Nat.le_of_ble_eq_true rfl) dX8_get_2 ⟨Nat.zero_le _, Nat.zero_le _⟩ (fun hp1 H locs hP hS => ?_)
    refine W.eq (g2 := F0 m 5 ls [.ref (d_t_holders 5)]) rfl ?_
    have h := it_n h (by decide)
    refine lv_astore_n (lv' := [(3, .ref (d_t_holders 5)), (0, .ref h_t), (1, .int p0), (2, .int p1)]) hx hb dX8_get_5 rfl hl (by decide) rfl (fun ls hl => ?_)
    refine lv_aload_n hx hb dX8_get_6 rfl (lv_at hl 0 rfl) ?_
    refine lv_ifnull hx hb dX8_get_7 ?_
    refine lv_aload_n hx hb dX8_get_10 rfl (lv_at hl 0 rfl) ?_
    refine va_get (D := G) (ci := 2) (v := .int (t_holders_sort 5)) (C := RX2) (T := TX2) (N := 6) hx hb hts hinX2 hown hK hP 12 rfl rfl 0 (by decide) (hts (.fieldLink RX8 267 "MarkedCurves$Holder" "sort" "I") (List.mem_of_getElem? (i := 1) (by decide +kernel))) (fun _ h9 => h9) rfl dX8_get_11 ?_
    refine lv_iconst (v := (3 : Int32)) hx hb dX8_get_14 (by decide) ?_
    refine lv_icmp_ne (tgt := 26) hx hb dX8_get_15 (by decide) (fun c2 => ?_) (fun c2 => ?_)
    · have h := it_n h c2
      refine lv_ldc2 (v := (-9223372036854775808 : Int64)) hx hb hown (hts (.constantLong RX8 114 (-9223372036854775808)) (List.mem_of_getElem? (i := 2) (by decide +kernel))) dX8_get_26 ?_
      cases h
      exact k_lret hx hb hr hlocks hP hS rfl dX8_get_29
    have h := it_p h c2
    refine lv_aload_n hx hb dX8_get_18 rfl (lv_at hl 0 rfl) ?_
    refine lv_iload_n hx hb dX8_get_19 rfl (lv_at hl 3 rfl) ?_
    obtain ⟨x3, hx3, h⟩ := bd_e h
    try dsimp only at h
    refine k_ViU (n := 1) (As := [.int p1]) (rest := []) hx hb hml hown hts (c_X2_hasPlace l G cI cJ cD cH H.size (d_t_holders 5) (q_t_holders 5) (t_holders_sort 5) (t_holders_tree 5) (t_holders_limit 5) (t_holders_above 5) (t_holders_size 5) p1 x3 hx3) gX8_get_X2_hasPlace rfl rfl rfl (by decide +kernel) ⟨by first | exact Nat.le_of_ble_eq_true rfl | (simp only [headSpec]; omega), by first | exact Nat.le_of_ble_eq_true rfl | (simp only [headSpec]; omega)⟩ hK hP hD hS hA [12] (by decide) rfl (ci := 2) rfl rfl rfl rfl rfl hl.1 (Nat.le_of_ble_eq_true rfl) dX8_get_20 ⟨Nat.zero_le _, Nat.zero_le _⟩ (fun hp3 H locs hP hS => ?_)
    refine lv_if_ne (tgt := 30) hx hb dX8_get_23 (by decide) (fun c4 => ?_) (fun c4 => ?_)
    rotate_left
    · have h := it_p h c4
      refine lv_ldc2 (v := (-9223372036854775808 : Int64)) hx hb hown (hts (.constantLong RX8 114 (-9223372036854775808)) (List.mem_of_getElem? (i := 2) (by decide +kernel))) dX8_get_26 ?_
      cases h
      exact k_lret hx hb hr hlocks hP hS rfl dX8_get_29
    have h := it_n h c4
    refine lv_aload_n hx hb dX8_get_30 rfl (lv_at hl 0 rfl) ?_
    refine va_get (D := G) (ci := 2) (v := .ref (q_t_holders 5)) (C := RX2) (T := TX2) (N := 6) hx hb hts hinX2 hown hK hP 12 rfl rfl 3 (by decide) (hts (.fieldLink RX8 288 "MarkedCurves$Holder" "ints" "[I") (List.mem_of_getElem? (i := 3) (by decide +kernel))) (fun _ h9 => h9) rfl dX8_get_31 ?_
    refine lv_iload_n hx hb dX8_get_34 rfl (lv_at hl 3 rfl) ?_
    obtain ⟨hn5, h⟩ := ck_e h
    refine va_iald hx hb hK hP 13 0 rfl rfl hn5 dX8_get_35 ?_
    refine lv_i2l (v := ((a_t_holders 5) p1.toNatClampNeg).toInt64) hx hb dX8_get_36 (by first | rfl | decide) ?_
    cases h
    exact k_lret hx hb hr hlocks hP hS rfl dX8_get_37
  · refine k_VqU (n := 1) (As := [.int p0]) (rest := []) hx hb hml hown hts (c_X8_holderAt l G cI cJ cD cH s.heap.size h_t h_t_holders h_t_desk h_t_imageDesk h_t_deeds h_t_numbers h_t_tape h_t_reader h_t_speller d_t_holders q_t_holders a_t_holders t_holders_sort t_holders_tree t_holders_limit t_holders_above t_holders_size t_imageKept p0 6 hx1) gX8_get_X8_holderAt rfl rfl rfl (by decide +kernel) ⟨by first | exact Nat.le_of_ble_eq_true rfl | (simp only [headSpec]; omega), by first | exact Nat.le_of_ble_eq_true rfl | (simp only [headSpec]; omega)⟩ hK hP hD hS hA [0, 1, 2, 3, 4, 5, 6, 7, 8, 9, 10, 11, 12, 13] (by decide) rfl (ci := 7) rfl rfl rfl rfl rfl hl.1 (Nat.le_of_ble_eq_true rfl) dX8_get_2 ⟨Nat.zero_le _, Nat.zero_le _⟩ (fun hp1 H locs hP hS => ?_)
    refine W.eq (g2 := F0 m 5 ls [.null]) rfl ?_
    have h := it_p h rfl
    refine lv_astore_nN (lv' := [(3, .null), (0, .ref h_t), (1, .int p0), (2, .int p1)]) hx hb dX8_get_5 rfl hl (by decide) rfl (fun ls hl => ?_)
    refine lv_aload_nN hx hb dX8_get_6 rfl (lv_at hl 0 rfl) ?_
    refine lv_ifnullN (tgt := 26) hx hb dX8_get_7 (by decide) ?_
    refine lv_ldc2 (v := (-9223372036854775808 : Int64)) hx hb hown (hts (.constantLong RX8 114 (-9223372036854775808)) (List.mem_of_getElem? (i := 2) (by decide +kernel))) dX8_get_26 ?_
    cases h
    exact k_lret hx hb hr hlocks hP hS rfl dX8_get_29
