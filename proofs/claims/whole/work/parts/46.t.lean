/-! X8_row -/
set_option maxHeartbeats 40000000 in
set_option maxRecDepth 100000 in
theorem c_X8_row (l : Launch) (G : va_G) (cI cJ cD cH : ClassId) (sz : Nat) (h_t : Nat) (h_t_holders : Nat) (h_t_desk : Nat) (h_t_imageDesk : Nat) (h_t_deeds : Nat) (h_t_numbers : Nat) (h_t_tape : Nat) (h_t_reader : Nat) (h_t_speller : Nat) (d_t_holders : Nat → Nat) (q_t_holders : Nat → Nat) (a_t_holders : Nat → Nat → Int32) (t_holders_sort : Nat → Int32) (t_holders_tree : Nat → Int64) (t_holders_limit : Nat → Int32) (t_holders_above : Nat → Int64) (t_holders_size : Nat → Int32) (t_imageKept : Int32) (p0 : Int32) (p1 : Int32) (r0 : Int32) (w0 : Nat → Nat → Int32) (w1 : Nat → Int32) (w2 : Nat → Int32) (hF : F_X8_row a_t_holders t_holders_sort t_holders_size p0 p1 = some (r0, w0, w1, w2)) : Met l yX8_row wsX8_row ({ frames := 1, cells := 0, slots := 0, locals := 22 }) (k_pre G (k_T cI cJ cD cH) [(h_t, .inr (7, [.ref h_t_desk, .ref h_t_imageDesk, .ref h_t_deeds, .ref h_t_numbers, .ref h_t_tape, .ref h_t_reader, .ref h_t_speller, .ref h_t_holders, .int t_imageKept])), (h_t_holders, .inl (cH, 6, .inr (.inr (.inr (.inr (fun i => some (d_t_holders i))))))), ((d_t_holders 0), .inr (2, [.int (t_holders_sort 0), .long (t_holders_tree 0), .int (t_holders_limit 0), .ref (q_t_holders 0), .long (t_holders_above 0), .int (t_holders_size 0)])), ((q_t_holders 0), .inl (cI, 20, .inl (a_t_holders 0))), ((d_t_holders 1), .inr (2, [.int (t_holders_sort 1), .long (t_holders_tree 1), .int (t_holders_limit 1), .ref (q_t_holders 1), .long (t_holders_above 1), .int (t_holders_size 1)])), ((q_t_holders 1), .inl (cI, 20, .inl (a_t_holders 1))), ((d_t_holders 2), .inr (2, [.int (t_holders_sort 2), .long (t_holders_tree 2), .int (t_holders_limit 2), .ref (q_t_holders 2), .long (t_holders_above 2), .int (t_holders_size 2)])), ((q_t_holders 2), .inl (cI, 20, .inl (a_t_holders 2))), ((d_t_holders 3), .inr (2, [.int (t_holders_sort 3), .long (t_holders_tree 3), .int (t_holders_limit 3), .ref (q_t_holders 3), .long (t_holders_above 3), .int (t_holders_size 3)])), ((q_t_holders 3), .inl (cI, 20, .inl (a_t_holders 3))), ((d_t_holders 4), .inr (2, [.int (t_holders_sort 4), .long (t_holders_tree 4), .int (t_holders_limit 4), .ref (q_t_holders 4), .long (t_holders_above 4), .int (t_holders_size 4)])), ((q_t_holders 4), .inl (cI, 20, .inl (a_t_holders 4))), ((d_t_holders 5), .inr (2, [.int (t_holders_sort 5), .long (t_holders_tree 5), .int (t_holders_limit 5), .ref (q_t_holders 5), .long (t_holders_above 5), .int (t_holders_size 5)])), ((q_t_holders 5), .inl (cI, 20, .inl (a_t_holders 5)))] sz [.ref h_t, .int p0, .int p1]) (va_Qi (fun r (_ : Unit) => r = r0 ∧ True) (fun _ t => va_P G vwCl [(h_t, .inr (7, [.ref h_t_desk, .ref h_t_imageDesk, .ref h_t_deeds, .ref h_t_numbers, .ref h_t_tape, .ref h_t_reader, .ref h_t_speller, .ref h_t_holders, .int t_imageKept])), (h_t_holders, .inl (cH, 6, .inr (.inr (.inr (.inr (fun i => some (d_t_holders i))))))), ((d_t_holders 0), .inr (2, [.int (w2 0), .long (t_holders_tree 0), .int (t_holders_limit 0), .ref (q_t_holders 0), .long (t_holders_above 0), .int (w1 0)])), ((q_t_holders 0), .inl (cI, 20, .inl (w0 0))), ((d_t_holders 1), .inr (2, [.int (w2 1), .long (t_holders_tree 1), .int (t_holders_limit 1), .ref (q_t_holders 1), .long (t_holders_above 1), .int (w1 1)])), ((q_t_holders 1), .inl (cI, 20, .inl (w0 1))), ((d_t_holders 2), .inr (2, [.int (w2 2), .long (t_holders_tree 2), .int (t_holders_limit 2), .ref (q_t_holders 2), .long (t_holders_above 2), .int (w1 2)])), ((q_t_holders 2), .inl (cI, 20, .inl (w0 2))), ((d_t_holders 3), .inr (2, [.int (w2 3), .long (t_holders_tree 3), .int (t_holders_limit 3), .ref (q_t_holders 3), .long (t_holders_above 3), .int (w1 3)])), ((q_t_holders 3), .inl (cI, 20, .inl (w0 3))), ((d_t_holders 4), .inr (2, [.int (w2 4), .long (t_holders_tree 4), .int (t_holders_limit 4), .ref (q_t_holders 4), .long (t_holders_above 4), .int (w1 4)])), ((q_t_holders 4), .inl (cI, 20, .inl (w0 4))), ((d_t_holders 5), .inr (2, [.int (w2 5), .long (t_holders_tree 5), .int (t_holders_limit 5), .ref (q_t_holders 5), .long (t_holders_above 5), .int (w1 5)])), ((q_t_holders 5), .inl (cI, 20, .inl (w0 5)))] t.heap) (va_A [(h_t, .inr (7, [.ref h_t_desk, .ref h_t_imageDesk, .ref h_t_deeds, .ref h_t_numbers, .ref h_t_tape, .ref h_t_reader, .ref h_t_speller, .ref h_t_holders, .int t_imageKept])), (h_t_holders, .inl (cH, 6, .inr (.inr (.inr (.inr (fun i => some (d_t_holders i))))))), ((d_t_holders 0), .inr (2, [.int (t_holders_sort 0), .long (t_holders_tree 0), .int (t_holders_limit 0), .ref (q_t_holders 0), .long (t_holders_above 0), .int (t_holders_size 0)])), ((q_t_holders 0), .inl (cI, 20, .inl (a_t_holders 0))), ((d_t_holders 1), .inr (2, [.int (t_holders_sort 1), .long (t_holders_tree 1), .int (t_holders_limit 1), .ref (q_t_holders 1), .long (t_holders_above 1), .int (t_holders_size 1)])), ((q_t_holders 1), .inl (cI, 20, .inl (a_t_holders 1))), ((d_t_holders 2), .inr (2, [.int (t_holders_sort 2), .long (t_holders_tree 2), .int (t_holders_limit 2), .ref (q_t_holders 2), .long (t_holders_above 2), .int (t_holders_size 2)])), ((q_t_holders 2), .inl (cI, 20, .inl (a_t_holders 2))), ((d_t_holders 3), .inr (2, [.int (t_holders_sort 3), .long (t_holders_tree 3), .int (t_holders_limit 3), .ref (q_t_holders 3), .long (t_holders_above 3), .int (t_holders_size 3)])), ((q_t_holders 3), .inl (cI, 20, .inl (a_t_holders 3))), ((d_t_holders 4), .inr (2, [.int (t_holders_sort 4), .long (t_holders_tree 4), .int (t_holders_limit 4), .ref (q_t_holders 4), .long (t_holders_above 4), .int (t_holders_size 4)])), ((q_t_holders 4), .inl (cI, 20, .inl (a_t_holders 4))), ((d_t_holders 5), .inr (2, [.int (t_holders_sort 5), .long (t_holders_tree 5), .int (t_holders_limit 5), .ref (q_t_holders 5), .long (t_holders_above 5), .int (t_holders_size 5)])), ((q_t_holders 5), .inl (cI, 20, .inl (a_t_holders 5)))] sz)) 0 0 (va_A [(h_t, .inr (7, [.ref h_t_desk, .ref h_t_imageDesk, .ref h_t_deeds, .ref h_t_numbers, .ref h_t_tape, .ref h_t_reader, .ref h_t_speller, .ref h_t_holders, .int t_imageKept])), (h_t_holders, .inl (cH, 6, .inr (.inr (.inr (.inr (fun i => some (d_t_holders i))))))), ((d_t_holders 0), .inr (2, [.int (t_holders_sort 0), .long (t_holders_tree 0), .int (t_holders_limit 0), .ref (q_t_holders 0), .long (t_holders_above 0), .int (t_holders_size 0)])), ((q_t_holders 0), .inl (cI, 20, .inl (a_t_holders 0))), ((d_t_holders 1), .inr (2, [.int (t_holders_sort 1), .long (t_holders_tree 1), .int (t_holders_limit 1), .ref (q_t_holders 1), .long (t_holders_above 1), .int (t_holders_size 1)])), ((q_t_holders 1), .inl (cI, 20, .inl (a_t_holders 1))), ((d_t_holders 2), .inr (2, [.int (t_holders_sort 2), .long (t_holders_tree 2), .int (t_holders_limit 2), .ref (q_t_holders 2), .long (t_holders_above 2), .int (t_holders_size 2)])), ((q_t_holders 2), .inl (cI, 20, .inl (a_t_holders 2))), ((d_t_holders 3), .inr (2, [.int (t_holders_sort 3), .long (t_holders_tree 3), .int (t_holders_limit 3), .ref (q_t_holders 3), .long (t_holders_above 3), .int (t_holders_size 3)])), ((q_t_holders 3), .inl (cI, 20, .inl (a_t_holders 3))), ((d_t_holders 4), .inr (2, [.int (t_holders_sort 4), .long (t_holders_tree 4), .int (t_holders_limit 4), .ref (q_t_holders 4), .long (t_holders_above 4), .int (t_holders_size 4)])), ((q_t_holders 4), .inl (cI, 20, .inl (a_t_holders 4))), ((d_t_holders 5), .inr (2, [.int (t_holders_sort 5), .long (t_holders_tree 5), .int (t_holders_limit 5), .ref (q_t_holders 5), .long (t_holders_above 5), .int (t_holders_size 5)])), ((q_t_holders 5), .inl (cI, 20, .inl (a_t_holders 5)))] sz) := by
  refine Met.ofW (cc := cX8_row) (maxL := 4) (ret := (some .int)) (by decide) rfl ?_
  intro p e s m args below meth c s₁ B hml hv
  obtain ⟨rfl, hsz, hP, hK, hD0⟩ := hv
  have hx := B.exec
  have hb := B.bytes
  have hr := B.returns
  have hts := atoms_spec (ws := wsX8_row) B.pre
  have hta : ∀ w ∈ wA, w.before ([.ref h_t, .int p0, .int p1] : List Value).toArray s = true := hta_of hts
  have hown : s.vm.findClass RX8 = some m.cls := findClass_of_methodNamed B.named
  have hlocks := B.notSynchronized
  subst hsz
  have hD := hD0.self (sz := s.heap.size)
  generalize hAe : va_A [(h_t, .inr (7, [.ref h_t_desk, .ref h_t_imageDesk, .ref h_t_deeds, .ref h_t_numbers, .ref h_t_tape, .ref h_t_reader, .ref h_t_speller, .ref h_t_holders, .int t_imageKept])), (h_t_holders, .inl (cH, 6, .inr (.inr (.inr (.inr (fun i => some (d_t_holders i))))))), ((d_t_holders 0), .inr (2, [.int (t_holders_sort 0), .long (t_holders_tree 0), .int (t_holders_limit 0), .ref (q_t_holders 0), .long (t_holders_above 0), .int (t_holders_size 0)])), ((q_t_holders 0), .inl (cI, 20, .inl (a_t_holders 0))), ((d_t_holders 1), .inr (2, [.int (t_holders_sort 1), .long (t_holders_tree 1), .int (t_holders_limit 1), .ref (q_t_holders 1), .long (t_holders_above 1), .int (t_holders_size 1)])), ((q_t_holders 1), .inl (cI, 20, .inl (a_t_holders 1))), ((d_t_holders 2), .inr (2, [.int (t_holders_sort 2), .long (t_holders_tree 2), .int (t_holders_limit 2), .ref (q_t_holders 2), .long (t_holders_above 2), .int (t_holders_size 2)])), ((q_t_holders 2), .inl (cI, 20, .inl (a_t_holders 2))), ((d_t_holders 3), .inr (2, [.int (t_holders_sort 3), .long (t_holders_tree 3), .int (t_holders_limit 3), .ref (q_t_holders 3), .long (t_holders_above 3), .int (t_holders_size 3)])), ((q_t_holders 3), .inl (cI, 20, .inl (a_t_holders 3))), ((d_t_holders 4), .inr (2, [.int (t_holders_sort 4), .long (t_holders_tree 4), .int (t_holders_limit 4), .ref (q_t_holders 4), .long (t_holders_above 4), .int (t_holders_size 4)])), ((q_t_holders 4), .inl (cI, 20, .inl (a_t_holders 4))), ((d_t_holders 5), .inr (2, [.int (t_holders_sort 5), .long (t_holders_tree 5), .int (t_holders_limit 5), .ref (q_t_holders 5), .long (t_holders_above 5), .int (t_holders_size 5)])), ((q_t_holders 5), .inl (cI, 20, .inl (a_t_holders 5)))] s.heap.size = A at hD ⊢
  have hA : ∀ q : Nat, s.heap.size ≤ q → A q := fun q h => by rw [← hAe]; exact Or.inr h
  have hS : va_S A s.heap s.heap [] := va_S.rf
  have hl := lv_entry ([.ref h_t, .int p0, .int p1]) (n := 4) (Nat.le_of_ble_eq_true rfl)
  rw [lg_entry_eq]
  generalize (lg_sl ([.ref h_t, .int p0, .int p1]) ++ List.replicate (4 - (lg_sl ([.ref h_t, .int p0, .int p1])).length) Slot.unset).toArray = ls at hl ⊢
  have hl : lv_has ls 4 [(0, .ref h_t), (1, .int p0), (2, .int p1)] := hl
  have h := hF
  unfold F_X8_row at h
  refine lv_aload_n hx hb dX8_row_0 rfl (lv_at hl 0 rfl) ?_
  refine lv_iload_n hx hb dX8_row_1 rfl (lv_at hl 1 rfl) ?_
  obtain ⟨x1, hx1, h⟩ := bd_e h
  try dsimp only at h
  have hc1 := k_lt_X8_holderAt hx1
  by_cases hd1 : x1 = 6
  · subst hd1
    refine k_VqU (n := 1) (As := [.int p0]) (rest := []) hx hb hml hown hts (c_X8_holderAt l G cI cJ cD cH s.heap.size h_t h_t_holders h_t_desk h_t_imageDesk h_t_deeds h_t_numbers h_t_tape h_t_reader h_t_speller d_t_holders q_t_holders a_t_holders t_holders_sort t_holders_tree t_holders_limit t_holders_above t_holders_size t_imageKept p0 6 hx1) gX8_row_X8_holderAt rfl rfl rfl (by decide +kernel) ⟨by first | exact Nat.le_of_ble_eq_true rfl | (simp only [headSpec]; omega), by first | exact Nat.le_of_ble_eq_true rfl | (simp only [headSpec]; omega)⟩ hK hP hD hS hA [0, 1, 2, 3, 4, 5, 6, 7, 8, 9, 10, 11, 12, 13] (by decide) rfl (ci := 7) rfl rfl rfl rfl rfl hl.1 (Nat.le_of_ble_eq_true rfl) dX8_row_2 ⟨Nat.zero_le _, Nat.zero_le _⟩ (fun hp1 H locs hP hS => ?_)
    refine W.eq (g2 := F0 m 5 ls [.null]) rfl ?_
    have h := it_p h rfl
    refine lv_astore_nN (lv' := [(3, .null), (0, .ref h_t), (1, .int p0), (2, .int p1)]) hx hb dX8_row_5 rfl hl (by decide) rfl (fun ls hl => ?_)
    refine lv_aload_nN hx hb dX8_row_6 rfl (lv_at hl 0 rfl) ?_
    refine lv_ifnullN (tgt := 16) hx hb dX8_row_7 (by decide) ?_
    refine lv_iconst (v := (-1 : Int32)) hx hb dX8_row_16 (by decide) ?_
    have h9 := Option.some.inj h
    have e9 : (-1 : Int32) = r0 := congrArg (fun z9 => z9.1) h9
    subst e9
    have e9 : a_t_holders = w0 := congrArg (fun z9 => z9.2.1) h9
    subst e9
    have e9 : t_holders_size = w1 := congrArg (fun z9 => z9.2.2.1) h9
    subst e9
    have e9 : t_holders_sort = w2 := congrArg (fun z9 => z9.2.2.2) h9
    subst e9
    exact k_iret hx hb hr hlocks hP hS rfl dX8_row_17
  have hb1 : x1 < 6 := by omega
  refine k_VqU (n := 1) (As := [.int p0]) (rest := []) hx hb hml hown hts (c_X8_holderAt l G cI cJ cD cH s.heap.size h_t h_t_holders h_t_desk h_t_imageDesk h_t_deeds h_t_numbers h_t_tape h_t_reader h_t_speller d_t_holders q_t_holders a_t_holders t_holders_sort t_holders_tree t_holders_limit t_holders_above t_holders_size t_imageKept p0 x1 hx1) gX8_row_X8_holderAt rfl rfl rfl (by decide +kernel) ⟨by first | exact Nat.le_of_ble_eq_true rfl | (simp only [headSpec]; omega), by first | exact Nat.le_of_ble_eq_true rfl | (simp only [headSpec]; omega)⟩ hK hP hD hS hA [0, 1, 2, 3, 4, 5, 6, 7, 8, 9, 10, 11, 12, 13] (by decide) rfl (ci := 7) rfl rfl rfl rfl rfl hl.1 (Nat.le_of_ble_eq_true rfl) dX8_row_2 ⟨Nat.zero_le _, Nat.zero_le _⟩ (fun hp1 H locs hP hS => ?_)
  refine W.eq (g2 := F0 m 5 ls [.ref (d_t_holders x1)]) (by rw [if_neg hd1]; rfl) ?_
  have h := it_n h hd1
  refine lv_astore_n (lv' := [(3, .ref (d_t_holders x1)), (0, .ref h_t), (1, .int p0), (2, .int p1)]) hx hb dX8_row_5 rfl hl (by decide) rfl (fun ls hl => ?_)
  refine lv_aload_n hx hb dX8_row_6 rfl (lv_at hl 0 rfl) ?_
  refine lv_ifnull hx hb dX8_row_7 ?_
  refine lv_iload_n hx hb dX8_row_10 rfl (lv_at hl 3 rfl) ?_
  refine lv_bipush (v := (20 : Int32)) hx hb dX8_row_11 (by decide) ?_
  refine lv_icmp_le (tgt := 18) hx hb dX8_row_13 (by decide) (fun c2 => ?_) (fun c2 => ?_)
  rotate_left
  · have h := it_n h c2
    refine lv_iconst (v := (-1 : Int32)) hx hb dX8_row_16 (by decide) ?_
    have h9 := Option.some.inj h
    have e9 : (-1 : Int32) = r0 := congrArg (fun z9 => z9.1) h9
    subst e9
    have e9 : a_t_holders = w0 := congrArg (fun z9 => z9.2.1) h9
    subst e9
    have e9 : t_holders_size = w1 := congrArg (fun z9 => z9.2.2.1) h9
    subst e9
    have e9 : t_holders_sort = w2 := congrArg (fun z9 => z9.2.2.2) h9
    subst e9
    exact k_iret hx hb hr hlocks hP hS rfl dX8_row_17
  have h := it_p h c2
  refine lv_iload_n hx hb dX8_row_18 rfl (lv_at hl 3 rfl) ?_
  refine lv_if_ge (tgt := 25) hx hb dX8_row_19 (by decide) (fun c3 => ?_) (fun c3 => ?_)
  rotate_left
  · have h := it_n h c3
    refine lv_bipush (v := (-14 : Int32)) hx hb dX8_row_22 (by decide) ?_
    have h9 := Option.some.inj h
    have e9 : (-14 : Int32) = r0 := congrArg (fun z9 => z9.1) h9
    subst e9
    have e9 : a_t_holders = w0 := congrArg (fun z9 => z9.2.1) h9
    subst e9
    have e9 : t_holders_size = w1 := congrArg (fun z9 => z9.2.2.1) h9
    subst e9
    have e9 : t_holders_sort = w2 := congrArg (fun z9 => z9.2.2.2) h9
    subst e9
    exact k_iret hx hb hr hlocks hP hS rfl dX8_row_24
  have h := it_p h c3
  refine lv_aload_n hx hb dX8_row_25 rfl (lv_at hl 0 rfl) ?_
  refine lv_iload_n hx hb dX8_row_26 rfl (lv_at hl 3 rfl) ?_
  obtain ⟨x4, hx4, h⟩ := bd_e h
  try dsimp only at h
  refine k_VvR (n := 1) (As := [.int p1]) (rest := []) hx hb hml hown hts (c_X2_holdRow l G cI cJ cD cH H.size (d_t_holders x1) (q_t_holders x1) (t_holders_sort x1) (t_holders_tree x1) (t_holders_limit x1) (t_holders_above x1) (t_holders_size x1) (a_t_holders x1) p1 (x4.1) (x4.2.1) (x4.2.2) hx4) gX8_row_X2_holdRow rfl rfl rfl (by decide +kernel) ⟨by first | exact Nat.le_of_ble_eq_true rfl | (simp only [headSpec]; omega), by first | exact Nat.le_of_ble_eq_true rfl | (simp only [headSpec]; omega)⟩ hK hP hD hS hA [(2 + 2 * x1), (3 + 2 * x1)] (by obtain rfl | rfl | rfl | rfl | rfl | rfl := k_lt6 hb1 <;> decide) (by obtain rfl | rfl | rfl | rfl | rfl | rfl := k_lt6 hb1 <;> rfl) rfl (ci := 2) rfl rfl rfl rfl rfl hl.1 (Nat.le_of_ble_eq_true rfl) dX8_row_27 ⟨Nat.zero_le _, Nat.zero_le _⟩ [(h_t, .inr (7, [.ref h_t_desk, .ref h_t_imageDesk, .ref h_t_deeds, .ref h_t_numbers, .ref h_t_tape, .ref h_t_reader, .ref h_t_speller, .ref h_t_holders, .int t_imageKept])), (h_t_holders, .inl (cH, 6, .inr (.inr (.inr (.inr (fun i => some (d_t_holders i))))))), ((d_t_holders 0), .inr (2, [.int ((va_up t_holders_sort x1 (x4.2.1)) 0), .long (t_holders_tree 0), .int (t_holders_limit 0), .ref (q_t_holders 0), .long (t_holders_above 0), .int ((va_up t_holders_size x1 (x4.2.2)) 0)])), ((q_t_holders 0), .inl (cI, 20, .inl ((va_up a_t_holders x1 (x4.1)) 0))), ((d_t_holders 1), .inr (2, [.int ((va_up t_holders_sort x1 (x4.2.1)) 1), .long (t_holders_tree 1), .int (t_holders_limit 1), .ref (q_t_holders 1), .long (t_holders_above 1), .int ((va_up t_holders_size x1 (x4.2.2)) 1)])), ((q_t_holders 1), .inl (cI, 20, .inl ((va_up a_t_holders x1 (x4.1)) 1))), ((d_t_holders 2), .inr (2, [.int ((va_up t_holders_sort x1 (x4.2.1)) 2), .long (t_holders_tree 2), .int (t_holders_limit 2), .ref (q_t_holders 2), .long (t_holders_above 2), .int ((va_up t_holders_size x1 (x4.2.2)) 2)])), ((q_t_holders 2), .inl (cI, 20, .inl ((va_up a_t_holders x1 (x4.1)) 2))), ((d_t_holders 3), .inr (2, [.int ((va_up t_holders_sort x1 (x4.2.1)) 3), .long (t_holders_tree 3), .int (t_holders_limit 3), .ref (q_t_holders 3), .long (t_holders_above 3), .int ((va_up t_holders_size x1 (x4.2.2)) 3)])), ((q_t_holders 3), .inl (cI, 20, .inl ((va_up a_t_holders x1 (x4.1)) 3))), ((d_t_holders 4), .inr (2, [.int ((va_up t_holders_sort x1 (x4.2.1)) 4), .long (t_holders_tree 4), .int (t_holders_limit 4), .ref (q_t_holders 4), .long (t_holders_above 4), .int ((va_up t_holders_size x1 (x4.2.2)) 4)])), ((q_t_holders 4), .inl (cI, 20, .inl ((va_up a_t_holders x1 (x4.1)) 4))), ((d_t_holders 5), .inr (2, [.int ((va_up t_holders_sort x1 (x4.2.1)) 5), .long (t_holders_tree 5), .int (t_holders_limit 5), .ref (q_t_holders 5), .long (t_holders_above 5), .int ((va_up t_holders_size x1 (x4.2.2)) 5)])), ((q_t_holders 5), .inl (cI, 20, .inl ((va_up a_t_holders x1 (x4.1)) 5)))] (by obtain rfl | rfl | rfl | rfl | rfl | rfl := k_lt6 hb1 <;> rfl) (by obtain rfl | rfl | rfl | rfl | rfl | rfl := k_lt6 hb1 <;> rfl) (fun hp4 H locs hP hD hS => ?_)
  refine lv_iload_n hx hb dX8_row_30 rfl (lv_at hl 3 rfl) ?_
  have h9 := Option.some.inj h
  have e9 : p1 = r0 := congrArg (fun z9 => z9.1) h9
  subst e9
  have e9 : (va_up a_t_holders x1 (x4.1)) = w0 := congrArg (fun z9 => z9.2.1) h9
  subst e9
  have e9 : (va_up t_holders_size x1 (x4.2.2)) = w1 := congrArg (fun z9 => z9.2.2.1) h9
  subst e9
  have e9 : (va_up t_holders_sort x1 (x4.2.1)) = w2 := congrArg (fun z9 => z9.2.2.2) h9
  subst e9
  exact k_iret hx hb hr hlocks hP hS rfl dX8_row_31

/-! X8_set -/
set_option maxHeartbeats 40000000 in
set_option maxRecDepth 100000 in
theorem c_X8_set (l : Launch) (G : va_G) (cI cJ cD cH : ClassId) (sz : Nat) (h_t : Nat) (h_t_holders : Nat) (h_t_desk : Nat) (h_t_imageDesk : Nat) (h_t_deeds : Nat) (h_t_numbers : Nat) (h_t_tape : Nat) (h_t_reader : Nat) (h_t_speller : Nat) (d_t_holders : Nat → Nat) (q_t_holders : Nat → Nat) (a_t_holders : Nat → Nat → Int32) (t_holders_sort : Nat → Int32) (t_holders_tree : Nat → Int64) (t_holders_limit : Nat → Int32) (t_holders_above : Nat → Int64) (t_holders_size : Nat → Int32) (t_imageKept : Int32) (p0 : Int32) (p1 : Int32) (p2 : Int32) (r0 : Int32) (w0 : Nat → Nat → Int32) (hF : F_X8_set a_t_holders t_holders_sort t_holders_size p0 p1 p2 = some (r0, w0)) : Met l yX8_set wsX8_set ({ frames := 1, cells := 0, slots := 0, locals := 21 }) (k_pre G (k_T cI cJ cD cH) [(h_t, .inr (7, [.ref h_t_desk, .ref h_t_imageDesk, .ref h_t_deeds, .ref h_t_numbers, .ref h_t_tape, .ref h_t_reader, .ref h_t_speller, .ref h_t_holders, .int t_imageKept])), (h_t_holders, .inl (cH, 6, .inr (.inr (.inr (.inr (fun i => some (d_t_holders i))))))), ((d_t_holders 0), .inr (2, [.int (t_holders_sort 0), .long (t_holders_tree 0), .int (t_holders_limit 0), .ref (q_t_holders 0), .long (t_holders_above 0), .int (t_holders_size 0)])), ((q_t_holders 0), .inl (cI, 20, .inl (a_t_holders 0))), ((d_t_holders 1), .inr (2, [.int (t_holders_sort 1), .long (t_holders_tree 1), .int (t_holders_limit 1), .ref (q_t_holders 1), .long (t_holders_above 1), .int (t_holders_size 1)])), ((q_t_holders 1), .inl (cI, 20, .inl (a_t_holders 1))), ((d_t_holders 2), .inr (2, [.int (t_holders_sort 2), .long (t_holders_tree 2), .int (t_holders_limit 2), .ref (q_t_holders 2), .long (t_holders_above 2), .int (t_holders_size 2)])), ((q_t_holders 2), .inl (cI, 20, .inl (a_t_holders 2))), ((d_t_holders 3), .inr (2, [.int (t_holders_sort 3), .long (t_holders_tree 3), .int (t_holders_limit 3), .ref (q_t_holders 3), .long (t_holders_above 3), .int (t_holders_size 3)])), ((q_t_holders 3), .inl (cI, 20, .inl (a_t_holders 3))), ((d_t_holders 4), .inr (2, [.int (t_holders_sort 4), .long (t_holders_tree 4), .int (t_holders_limit 4), .ref (q_t_holders 4), .long (t_holders_above 4), .int (t_holders_size 4)])), ((q_t_holders 4), .inl (cI, 20, .inl (a_t_holders 4))), ((d_t_holders 5), .inr (2, [.int (t_holders_sort 5), .long (t_holders_tree 5), .int (t_holders_limit 5), .ref (q_t_holders 5), .long (t_holders_above 5), .int (t_holders_size 5)])), ((q_t_holders 5), .inl (cI, 20, .inl (a_t_holders 5)))] sz [.ref h_t, .int p0, .int p1, .int p2]) (va_Qi (fun r (_ : Unit) => r = r0 ∧ True) (fun _ t => va_P G vwCl [(h_t, .inr (7, [.ref h_t_desk, .ref h_t_imageDesk, .ref h_t_deeds, .ref h_t_numbers, .ref h_t_tape, .ref h_t_reader, .ref h_t_speller, .ref h_t_holders, .int t_imageKept])), (h_t_holders, .inl (cH, 6, .inr (.inr (.inr (.inr (fun i => some (d_t_holders i))))))), ((d_t_holders 0), .inr (2, [.int (t_holders_sort 0), .long (t_holders_tree 0), .int (t_holders_limit 0), .ref (q_t_holders 0), .long (t_holders_above 0), .int (t_holders_size 0)])), ((q_t_holders 0), .inl (cI, 20, .inl (w0 0))), ((d_t_holders 1), .inr (2, [.int (t_holders_sort 1), .long (t_holders_tree 1), .int (t_holders_limit 1), .ref (q_t_holders 1), .long (t_holders_above 1), .int (t_holders_size 1)])), ((q_t_holders 1), .inl (cI, 20, .inl (w0 1))), ((d_t_holders 2), .inr (2, [.int (t_holders_sort 2), .long (t_holders_tree 2), .int (t_holders_limit 2), .ref (q_t_holders 2), .long (t_holders_above 2), .int (t_holders_size 2)])), ((q_t_holders 2), .inl (cI, 20, .inl (w0 2))), ((d_t_holders 3), .inr (2, [.int (t_holders_sort 3), .long (t_holders_tree 3), .int (t_holders_limit 3), .ref (q_t_holders 3), .long (t_holders_above 3), .int (t_holders_size 3)])), ((q_t_holders 3), .inl (cI, 20, .inl (w0 3))), ((d_t_holders 4), .inr (2, [.int (t_holders_sort 4), .long (t_holders_tree 4), .int (t_holders_limit 4), .ref (q_t_holders 4), .long (t_holders_above 4), .int (t_holders_size 4)])), ((q_t_holders 4), .inl (cI, 20, .inl (w0 4))), ((d_t_holders 5), .inr (2, [.int (t_holders_sort 5), .long (t_holders_tree 5), .int (t_holders_limit 5), .ref (q_t_holders 5), .long (t_holders_above 5), .int (t_holders_size 5)])), ((q_t_holders 5), .inl (cI, 20, .inl (w0 5)))] t.heap) (va_A [(h_t, .inr (7, [.ref h_t_desk, .ref h_t_imageDesk, .ref h_t_deeds, .ref h_t_numbers, .ref h_t_tape, .ref h_t_reader, .ref h_t_speller, .ref h_t_holders, .int t_imageKept])), (h_t_holders, .inl (cH, 6, .inr (.inr (.inr (.inr (fun i => some (d_t_holders i))))))), ((d_t_holders 0), .inr (2, [.int (t_holders_sort 0), .long (t_holders_tree 0), .int (t_holders_limit 0), .ref (q_t_holders 0), .long (t_holders_above 0), .int (t_holders_size 0)])), ((q_t_holders 0), .inl (cI, 20, .inl (a_t_holders 0))), ((d_t_holders 1), .inr (2, [.int (t_holders_sort 1), .long (t_holders_tree 1), .int (t_holders_limit 1), .ref (q_t_holders 1), .long (t_holders_above 1), .int (t_holders_size 1)])), ((q_t_holders 1), .inl (cI, 20, .inl (a_t_holders 1))), ((d_t_holders 2), .inr (2, [.int (t_holders_sort 2), .long (t_holders_tree 2), .int (t_holders_limit 2), .ref (q_t_holders 2), .long (t_holders_above 2), .int (t_holders_size 2)])), ((q_t_holders 2), .inl (cI, 20, .inl (a_t_holders 2))), ((d_t_holders 3), .inr (2, [.int (t_holders_sort 3), .long (t_holders_tree 3), .int (t_holders_limit 3), .ref (q_t_holders 3), .long (t_holders_above 3), .int (t_holders_size 3)])), ((q_t_holders 3), .inl (cI, 20, .inl (a_t_holders 3))), ((d_t_holders 4), .inr (2, [.int (t_holders_sort 4), .long (t_holders_tree 4), .int (t_holders_limit 4), .ref (q_t_holders 4), .long (t_holders_above 4), .int (t_holders_size 4)])), ((q_t_holders 4), .inl (cI, 20, .inl (a_t_holders 4))), ((d_t_holders 5), .inr (2, [.int (t_holders_sort 5), .long (t_holders_tree 5), .int (t_holders_limit 5), .ref (q_t_holders 5), .long (t_holders_above 5), .int (t_holders_size 5)])), ((q_t_holders 5), .inl (cI, 20, .inl (a_t_holders 5)))] sz)) 0 0 (va_A [(h_t, .inr (7, [.ref h_t_desk, .ref h_t_imageDesk, .ref h_t_deeds, .ref h_t_numbers, .ref h_t_tape, .ref h_t_reader, .ref h_t_speller, .ref h_t_holders, .int t_imageKept])), (h_t_holders, .inl (cH, 6, .inr (.inr (.inr (.inr (fun i => some (d_t_holders i))))))), ((d_t_holders 0), .inr (2, [.int (t_holders_sort 0), .long (t_holders_tree 0), .int (t_holders_limit 0), .ref (q_t_holders 0), .long (t_holders_above 0), .int (t_holders_size 0)])), ((q_t_holders 0), .inl (cI, 20, .inl (a_t_holders 0))), ((d_t_holders 1), .inr (2, [.int (t_holders_sort 1), .long (t_holders_tree 1), .int (t_holders_limit 1), .ref (q_t_holders 1), .long (t_holders_above 1), .int (t_holders_size 1)])), ((q_t_holders 1), .inl (cI, 20, .inl (a_t_holders 1))), ((d_t_holders 2), .inr (2, [.int (t_holders_sort 2), .long (t_holders_tree 2), .int (t_holders_limit 2), .ref (q_t_holders 2), .long (t_holders_above 2), .int (t_holders_size 2)])), ((q_t_holders 2), .inl (cI, 20, .inl (a_t_holders 2))), ((d_t_holders 3), .inr (2, [.int (t_holders_sort 3), .long (t_holders_tree 3), .int (t_holders_limit 3), .ref (q_t_holders 3), .long (t_holders_above 3), .int (t_holders_size 3)])), ((q_t_holders 3), .inl (cI, 20, .inl (a_t_holders 3))), ((d_t_holders 4), .inr (2, [.int (t_holders_sort 4), .long (t_holders_tree 4), .int (t_holders_limit 4), .ref (q_t_holders 4), .long (t_holders_above 4), .int (t_holders_size 4)])), ((q_t_holders 4), .inl (cI, 20, .inl (a_t_holders 4))), ((d_t_holders 5), .inr (2, [.int (t_holders_sort 5), .long (t_holders_tree 5), .int (t_holders_limit 5), .ref (q_t_holders 5), .long (t_holders_above 5), .int (t_holders_size 5)])), ((q_t_holders 5), .inl (cI, 20, .inl (a_t_holders 5)))] sz) := by
  refine Met.ofW (cc := cX8_set) (maxL := 6) (ret := (some .int)) (by decide) rfl ?_
  intro p e s m args below meth c s₁ B hml hv
  obtain ⟨rfl, hsz, hP, hK, hD0⟩ := hv
  have hx := B.exec
  have hb := B.bytes
  have hr := B.returns
  have hts := atoms_spec (ws := wsX8_set) B.pre
  have hta : ∀ w ∈ wA, w.before ([.ref h_t, .int p0, .int p1, .int p2] : List Value).toArray s = true := hta_of hts
  have hown : s.vm.findClass RX8 = some m.cls := findClass_of_methodNamed B.named
  have hlocks := B.notSynchronized
  subst hsz
  have hD := hD0.self (sz := s.heap.size)
  generalize hAe : va_A [(h_t, .inr (7, [.ref h_t_desk, .ref h_t_imageDesk, .ref h_t_deeds, .ref h_t_numbers, .ref h_t_tape, .ref h_t_reader, .ref h_t_speller, .ref h_t_holders, .int t_imageKept])), (h_t_holders, .inl (cH, 6, .inr (.inr (.inr (.inr (fun i => some (d_t_holders i))))))), ((d_t_holders 0), .inr (2, [.int (t_holders_sort 0), .long (t_holders_tree 0), .int (t_holders_limit 0), .ref (q_t_holders 0), .long (t_holders_above 0), .int (t_holders_size 0)])), ((q_t_holders 0), .inl (cI, 20, .inl (a_t_holders 0))), ((d_t_holders 1), .inr (2, [.int (t_holders_sort 1), .long (t_holders_tree 1), .int (t_holders_limit 1), .ref (q_t_holders 1), .long (t_holders_above 1), .int (t_holders_size 1)])), ((q_t_holders 1), .inl (cI, 20, .inl (a_t_holders 1))), ((d_t_holders 2), .inr (2, [.int (t_holders_sort 2), .long (t_holders_tree 2), .int (t_holders_limit 2), .ref (q_t_holders 2), .long (t_holders_above 2), .int (t_holders_size 2)])), ((q_t_holders 2), .inl (cI, 20, .inl (a_t_holders 2))), ((d_t_holders 3), .inr (2, [.int (t_holders_sort 3), .long (t_holders_tree 3), .int (t_holders_limit 3), .ref (q_t_holders 3), .long (t_holders_above 3), .int (t_holders_size 3)])), ((q_t_holders 3), .inl (cI, 20, .inl (a_t_holders 3))), ((d_t_holders 4), .inr (2, [.int (t_holders_sort 4), .long (t_holders_tree 4), .int (t_holders_limit 4), .ref (q_t_holders 4), .long (t_holders_above 4), .int (t_holders_size 4)])), ((q_t_holders 4), .inl (cI, 20, .inl (a_t_holders 4))), ((d_t_holders 5), .inr (2, [.int (t_holders_sort 5), .long (t_holders_tree 5), .int (t_holders_limit 5), .ref (q_t_holders 5), .long (t_holders_above 5), .int (t_holders_size 5)])), ((q_t_holders 5), .inl (cI, 20, .inl (a_t_holders 5)))] s.heap.size = A at hD ⊢
  have hA : ∀ q : Nat, s.heap.size ≤ q → A q := fun q h => by rw [← hAe]; exact Or.inr h
  have hS : va_S A s.heap s.heap [] := va_S.rf
  have hl := lv_entry ([.ref h_t, .int p0, .int p1, .int p2]) (n := 6) (Nat.le_of_ble_eq_true rfl)
  rw [lg_entry_eq]
  generalize (lg_sl ([.ref h_t, .int p0, .int p1, .int p2]) ++ List.replicate (6 - (lg_sl ([.ref h_t, .int p0, .int p1, .int p2])).length) Slot.unset).toArray = ls at hl ⊢
  have hl : lv_has ls 6 [(0, .ref h_t), (1, .int p0), (2, .int p1), (3, .int p2)] := hl
  have hinX2 : ∀ w ∈ wsX20, w ∈ wsX8_set := hin_of in_X2
  have h := hF
  unfold F_X8_set at h
  refine lv_aload_n hx hb dX8_set_0 rfl (lv_at hl 0 rfl) ?_
  refine lv_iload_n hx hb dX8_set_1 rfl (lv_at hl 1 rfl) ?_
  obtain ⟨x1, hx1, h⟩ := bd_e h
  try dsimp only at h
  have hc1 := k_lt_X8_holderAt hx1
  by_cases hd1 : x1 = 6
  · subst hd1
    refine k_VqU (n := 1) (As := [.int p0]) (rest := []) hx hb hml hown hts (c_X8_holderAt l G cI cJ cD cH s.heap.size h_t h_t_holders h_t_desk h_t_imageDesk h_t_deeds h_t_numbers h_t_tape h_t_reader h_t_speller d_t_holders q_t_holders a_t_holders t_holders_sort t_holders_tree t_holders_limit t_holders_above t_holders_size t_imageKept p0 6 hx1) gX8_set_X8_holderAt rfl rfl rfl (by decide +kernel) ⟨by first | exact Nat.le_of_ble_eq_true rfl | (simp only [headSpec]; omega), by first | exact Nat.le_of_ble_eq_true rfl | (simp only [headSpec]; omega)⟩ hK hP hD hS hA [0, 1, 2, 3, 4, 5, 6, 7, 8, 9, 10, 11, 12, 13] (by decide) rfl (ci := 7) rfl rfl rfl rfl rfl hl.1 (Nat.le_of_ble_eq_true rfl) dX8_set_2 ⟨Nat.zero_le _, Nat.zero_le _⟩ (fun hp1 H locs hP hS => ?_)
    refine W.eq (g2 := F0 m 5 ls [.null]) rfl ?_
    have h := it_p h rfl
    refine lv_astoreN (lv' := [(4, .null), (0, .ref h_t), (1, .int p0), (2, .int p1), (3, .int p2)]) hx hb dX8_set_5 hl (by decide) rfl (fun ls hl => ?_)
    refine lv_aloadN hx hb dX8_set_7 (lv_at hl 0 rfl) ?_
    refine lv_iconst (v := (3 : Int32)) hx hb dX8_set_9 (by decide) ?_
    obtain ⟨x7, hx7, h⟩ := bd_e h
    try dsimp only at h
    refine k_SiU (n := 2) (As := [.null, .int (3 : Int32)]) (rest := []) hx hb hml hown hts (c_X8_refusalOfN l G cI cJ cD cH H.size (3 : Int32) x7 hx7) gX8_set_X8_refusalOf rfl rfl rfl (by decide +kernel) ⟨by first | exact Nat.le_of_ble_eq_true rfl | (simp only [headSpec]; omega), by first | exact Nat.le_of_ble_eq_true rfl | (simp only [headSpec]; omega)⟩ hK hP hD hS hA [] (by decide) rfl rfl rfl hl.1 (Nat.le_of_ble_eq_true rfl) dX8_set_10 ⟨Nat.zero_le _, Nat.zero_le _⟩ (fun hp7 H locs hP hS => ?_)
    refine lv_istore (lv' := [(5, .int x7), (4, .null), (0, .ref h_t), (1, .int p0), (2, .int p1), (3, .int p2)]) hx hb dX8_set_13 hl (by decide) rfl (fun ls hl => ?_)
    refine lv_aloadN hx hb dX8_set_15 (lv_at hl 1 rfl) ?_
    refine lv_ifnullN (tgt := 25) hx hb dX8_set_17 (by decide) ?_
    refine lv_iload hx hb dX8_set_25 (lv_at hl 0 rfl) ?_
    have h9 := Option.some.inj h
    have e9 : x7 = r0 := congrArg (fun z9 => z9.1) h9
    subst e9
    have e9 : a_t_holders = w0 := congrArg (fun z9 => z9.2) h9
    subst e9
    exact k_iret hx hb hr hlocks hP hS rfl dX8_set_27
  have hb1 : x1 < 6 := by omega
  refine k_VqU (n := 1) (As := [.int p0]) (rest := []) hx hb hml hown hts (c_X8_holderAt l G cI cJ cD cH s.heap.size h_t h_t_holders h_t_desk h_t_imageDesk h_t_deeds h_t_numbers h_t_tape h_t_reader h_t_speller d_t_holders q_t_holders a_t_holders t_holders_sort t_holders_tree t_holders_limit t_holders_above t_holders_size t_imageKept p0 x1 hx1) gX8_set_X8_holderAt rfl rfl rfl (by decide +kernel) ⟨by first | exact Nat.le_of_ble_eq_true rfl | (simp only [headSpec]; omega), by first | exact Nat.le_of_ble_eq_true rfl | (simp only [headSpec]; omega)⟩ hK hP hD hS hA [0, 1, 2, 3, 4, 5, 6, 7, 8, 9, 10, 11, 12, 13] (by decide) rfl (ci := 7) rfl rfl rfl rfl rfl hl.1 (Nat.le_of_ble_eq_true rfl) dX8_set_2 ⟨Nat.zero_le _, Nat.zero_le _⟩ (fun hp1 H locs hP hS => ?_)
  refine W.eq (g2 := F0 m 5 ls [.ref (d_t_holders x1)]) (by rw [if_neg hd1]; rfl) ?_
  have h := it_n h hd1
  refine lv_astore (lv' := [(4, .ref (d_t_holders x1)), (0, .ref h_t), (1, .int p0), (2, .int p1), (3, .int p2)]) hx hb dX8_set_5 hl (by decide) rfl (fun ls hl => ?_)
  refine lv_aload hx hb dX8_set_7 (lv_at hl 0 rfl) ?_
  refine lv_iconst (v := (3 : Int32)) hx hb dX8_set_9 (by decide) ?_
  obtain ⟨x2, hx2, h⟩ := bd_e h
  try dsimp only at h
  refine k_SiU (n := 2) (As := [.ref (d_t_holders x1), .int (3 : Int32)]) (rest := []) hx hb hml hown hts (c_X8_refusalOf l G cI cJ cD cH H.size (d_t_holders x1) (q_t_holders x1) (t_holders_sort x1) (t_holders_tree x1) (t_holders_limit x1) (t_holders_above x1) (t_holders_size x1) (3 : Int32) x2 hx2) gX8_set_X8_refusalOf rfl rfl rfl (by decide +kernel) ⟨by first | exact Nat.le_of_ble_eq_true rfl | (simp only [headSpec]; omega), by first | exact Nat.le_of_ble_eq_true rfl | (simp only [headSpec]; omega)⟩ hK hP hD hS hA [(2 + 2 * x1)] (by obtain rfl | rfl | rfl | rfl | rfl | rfl := k_lt6 hb1 <;> decide) (by obtain rfl | rfl | rfl | rfl | rfl | rfl := k_lt6 hb1 <;> rfl) rfl rfl hl.1 (Nat.le_of_ble_eq_true rfl) dX8_set_10 ⟨Nat.zero_le _, Nat.zero_le _⟩ (fun hp2 H locs hP hS => ?_)
  refine lv_istore (lv' := [(5, .int x2), (4, .ref (d_t_holders x1)), (0, .ref h_t), (1, .int p0), (2, .int p1), (3, .int p2)]) hx hb dX8_set_13 hl (by decide) rfl (fun ls hl => ?_)
  refine lv_aload hx hb dX8_set_15 (lv_at hl 1 rfl) ?_
  refine lv_ifnull hx hb dX8_set_17 ?_
  refine lv_iload hx hb dX8_set_20 (lv_at hl 0 rfl) ?_
  refine lv_if_eq (tgt := 28) hx hb dX8_set_22 (by decide) (fun c3 => ?_) (fun c3 => ?_)
  rotate_left
  · have h := it_n h c3
    refine lv_iload hx hb dX8_set_25 (lv_at hl 0 rfl) ?_
    have h9 := Option.some.inj h
    have e9 : x2 = r0 := congrArg (fun z9 => z9.1) h9
    subst e9
    have e9 : a_t_holders = w0 := congrArg (fun z9 => z9.2) h9
    subst e9
    exact k_iret hx hb hr hlocks hP hS rfl dX8_set_27
  have h := it_p h c3
  refine lv_aload hx hb dX8_set_28 (lv_at hl 1 rfl) ?_
  refine lv_iload_n hx hb dX8_set_30 rfl (lv_at hl 4 rfl) ?_
  obtain ⟨x4, hx4, h⟩ := bd_e h
  try dsimp only at h
  refine k_ViU (n := 1) (As := [.int p1]) (rest := []) hx hb hml hown hts (c_X2_hasPlace l G cI cJ cD cH H.size (d_t_holders x1) (q_t_holders x1) (t_holders_sort x1) (t_holders_tree x1) (t_holders_limit x1) (t_holders_above x1) (t_holders_size x1) p1 x4 hx4) gX8_set_X2_hasPlace rfl rfl rfl (by decide +kernel) ⟨by first | exact Nat.le_of_ble_eq_true rfl | (simp only [headSpec]; omega), by first | exact Nat.le_of_ble_eq_true rfl | (simp only [headSpec]; omega)⟩ hK hP hD hS hA [(2 + 2 * x1)] (by obtain rfl | rfl | rfl | rfl | rfl | rfl := k_lt6 hb1 <;> decide) (by obtain rfl | rfl | rfl | rfl | rfl | rfl := k_lt6 hb1 <;> rfl) (ci := 2) rfl rfl rfl rfl rfl hl.1 (Nat.le_of_ble_eq_true rfl) dX8_set_31 ⟨Nat.zero_le _, Nat.zero_le _⟩ (fun hp4 H locs hP hS => ?_)
  refine lv_if_ne (tgt := 40) hx hb dX8_set_34 (by decide) (fun c5 => ?_) (fun c5 => ?_)
  rotate_left
  · have h := it_p h c5
    refine lv_bipush (v := (-13 : Int32)) hx hb dX8_set_37 (by decide) ?_
    have h9 := Option.some.inj h
    have e9 : (-13 : Int32) = r0 := congrArg (fun z9 => z9.1) h9
    subst e9
    have e9 : a_t_holders = w0 := congrArg (fun z9 => z9.2) h9
    subst e9
    exact k_iret hx hb hr hlocks hP hS rfl dX8_set_39
  have h := it_n h c5
  refine lv_aload hx hb dX8_set_40 (lv_at hl 1 rfl) ?_
  refine va_get (D := G) (fs := [.int (t_holders_sort x1), .long (t_holders_tree x1), .int (t_holders_limit x1), .ref (q_t_holders x1), .long (t_holders_above x1), .int (t_holders_size x1)]) (ci := 2) (v := .ref (q_t_holders x1)) (C := RX2) (T := TX2) (N := 6) hx hb hts hinX2 hown hK hP (2 + 2 * x1) (by obtain rfl | rfl | rfl | rfl | rfl | rfl := k_lt6 hb1 <;> rfl) rfl 3 (by decide) (hta _ mw_588) (fun _ h9 => h9) rfl dX8_set_42 ?_
  refine lv_iload_n hx hb dX8_set_45 rfl (lv_at hl 4 rfl) ?_
  refine lv_iload_n hx hb dX8_set_46 rfl (lv_at hl 5 rfl) ?_
  obtain ⟨hn6, h⟩ := ck_e h
  refine va_iast (cA := cI) (n := 20) (f := (a_t_holders x1)) hx hb hK hP hD hS (3 + 2 * x1) 0 (by obtain rfl | rfl | rfl | rfl | rfl | rfl := k_lt6 hb1 <;> rfl) rfl hn6 dX8_set_47 (fun H locs hP hD hS => ?_)
  have he9 : ([(h_t, .inr (7, [.ref h_t_desk, .ref h_t_imageDesk, .ref h_t_deeds, .ref h_t_numbers, .ref h_t_tape, .ref h_t_reader, .ref h_t_speller, .ref h_t_holders, .int t_imageKept])), (h_t_holders, .inl (cH, 6, .inr (.inr (.inr (.inr (fun i => some (d_t_holders i))))))), ((d_t_holders 0), .inr (2, [.int (t_holders_sort 0), .long (t_holders_tree 0), .int (t_holders_limit 0), .ref (q_t_holders 0), .long (t_holders_above 0), .int (t_holders_size 0)])), ((q_t_holders 0), .inl (cI, 20, .inl (a_t_holders 0))), ((d_t_holders 1), .inr (2, [.int (t_holders_sort 1), .long (t_holders_tree 1), .int (t_holders_limit 1), .ref (q_t_holders 1), .long (t_holders_above 1), .int (t_holders_size 1)])), ((q_t_holders 1), .inl (cI, 20, .inl (a_t_holders 1))), ((d_t_holders 2), .inr (2, [.int (t_holders_sort 2), .long (t_holders_tree 2), .int (t_holders_limit 2), .ref (q_t_holders 2), .long (t_holders_above 2), .int (t_holders_size 2)])), ((q_t_holders 2), .inl (cI, 20, .inl (a_t_holders 2))), ((d_t_holders 3), .inr (2, [.int (t_holders_sort 3), .long (t_holders_tree 3), .int (t_holders_limit 3), .ref (q_t_holders 3), .long (t_holders_above 3), .int (t_holders_size 3)])), ((q_t_holders 3), .inl (cI, 20, .inl (a_t_holders 3))), ((d_t_holders 4), .inr (2, [.int (t_holders_sort 4), .long (t_holders_tree 4), .int (t_holders_limit 4), .ref (q_t_holders 4), .long (t_holders_above 4), .int (t_holders_size 4)])), ((q_t_holders 4), .inl (cI, 20, .inl (a_t_holders 4))), ((d_t_holders 5), .inr (2, [.int (t_holders_sort 5), .long (t_holders_tree 5), .int (t_holders_limit 5), .ref (q_t_holders 5), .long (t_holders_above 5), .int (t_holders_size 5)])), ((q_t_holders 5), .inl (cI, 20, .inl (a_t_holders 5)))] : va_W).set (3 + 2 * x1) ((q_t_holders x1), .inl (cI, 20, .inl (upd (a_t_holders x1) p1.toNatClampNeg p2))) = [(h_t, .inr (7, [.ref h_t_desk, .ref h_t_imageDesk, .ref h_t_deeds, .ref h_t_numbers, .ref h_t_tape, .ref h_t_reader, .ref h_t_speller, .ref h_t_holders, .int t_imageKept])), (h_t_holders, .inl (cH, 6, .inr (.inr (.inr (.inr (fun i => some (d_t_holders i))))))), ((d_t_holders 0), .inr (2, [.int (t_holders_sort 0), .long (t_holders_tree 0), .int (t_holders_limit 0), .ref (q_t_holders 0), .long (t_holders_above 0), .int (t_holders_size 0)])), ((q_t_holders 0), .inl (cI, 20, .inl ((va_up a_t_holders x1 (upd (a_t_holders x1) p1.toNatClampNeg p2)) 0))), ((d_t_holders 1), .inr (2, [.int (t_holders_sort 1), .long (t_holders_tree 1), .int (t_holders_limit 1), .ref (q_t_holders 1), .long (t_holders_above 1), .int (t_holders_size 1)])), ((q_t_holders 1), .inl (cI, 20, .inl ((va_up a_t_holders x1 (upd (a_t_holders x1) p1.toNatClampNeg p2)) 1))), ((d_t_holders 2), .inr (2, [.int (t_holders_sort 2), .long (t_holders_tree 2), .int (t_holders_limit 2), .ref (q_t_holders 2), .long (t_holders_above 2), .int (t_holders_size 2)])), ((q_t_holders 2), .inl (cI, 20, .inl ((va_up a_t_holders x1 (upd (a_t_holders x1) p1.toNatClampNeg p2)) 2))), ((d_t_holders 3), .inr (2, [.int (t_holders_sort 3), .long (t_holders_tree 3), .int (t_holders_limit 3), .ref (q_t_holders 3), .long (t_holders_above 3), .int (t_holders_size 3)])), ((q_t_holders 3), .inl (cI, 20, .inl ((va_up a_t_holders x1 (upd (a_t_holders x1) p1.toNatClampNeg p2)) 3))), ((d_t_holders 4), .inr (2, [.int (t_holders_sort 4), .long (t_holders_tree 4), .int (t_holders_limit 4), .ref (q_t_holders 4), .long (t_holders_above 4), .int (t_holders_size 4)])), ((q_t_holders 4), .inl (cI, 20, .inl ((va_up a_t_holders x1 (upd (a_t_holders x1) p1.toNatClampNeg p2)) 4))), ((d_t_holders 5), .inr (2, [.int (t_holders_sort 5), .long (t_holders_tree 5), .int (t_holders_limit 5), .ref (q_t_holders 5), .long (t_holders_above 5), .int (t_holders_size 5)])), ((q_t_holders 5), .inl (cI, 20, .inl ((va_up a_t_holders x1 (upd (a_t_holders x1) p1.toNatClampNeg p2)) 5)))] := (by obtain rfl | rfl | rfl | rfl | rfl | rfl := k_lt6 hb1 <;> rfl)
  have hP : va_P G vwCl [(h_t, .inr (7, [.ref h_t_desk, .ref h_t_imageDesk, .ref h_t_deeds, .ref h_t_numbers, .ref h_t_tape, .ref h_t_reader, .ref h_t_speller, .ref h_t_holders, .int t_imageKept])), (h_t_holders, .inl (cH, 6, .inr (.inr (.inr (.inr (fun i => some (d_t_holders i))))))), ((d_t_holders 0), .inr (2, [.int (t_holders_sort 0), .long (t_holders_tree 0), .int (t_holders_limit 0), .ref (q_t_holders 0), .long (t_holders_above 0), .int (t_holders_size 0)])), ((q_t_holders 0), .inl (cI, 20, .inl ((va_up a_t_holders x1 (upd (a_t_holders x1) p1.toNatClampNeg p2)) 0))), ((d_t_holders 1), .inr (2, [.int (t_holders_sort 1), .long (t_holders_tree 1), .int (t_holders_limit 1), .ref (q_t_holders 1), .long (t_holders_above 1), .int (t_holders_size 1)])), ((q_t_holders 1), .inl (cI, 20, .inl ((va_up a_t_holders x1 (upd (a_t_holders x1) p1.toNatClampNeg p2)) 1))), ((d_t_holders 2), .inr (2, [.int (t_holders_sort 2), .long (t_holders_tree 2), .int (t_holders_limit 2), .ref (q_t_holders 2), .long (t_holders_above 2), .int (t_holders_size 2)])), ((q_t_holders 2), .inl (cI, 20, .inl ((va_up a_t_holders x1 (upd (a_t_holders x1) p1.toNatClampNeg p2)) 2))), ((d_t_holders 3), .inr (2, [.int (t_holders_sort 3), .long (t_holders_tree 3), .int (t_holders_limit 3), .ref (q_t_holders 3), .long (t_holders_above 3), .int (t_holders_size 3)])), ((q_t_holders 3), .inl (cI, 20, .inl ((va_up a_t_holders x1 (upd (a_t_holders x1) p1.toNatClampNeg p2)) 3))), ((d_t_holders 4), .inr (2, [.int (t_holders_sort 4), .long (t_holders_tree 4), .int (t_holders_limit 4), .ref (q_t_holders 4), .long (t_holders_above 4), .int (t_holders_size 4)])), ((q_t_holders 4), .inl (cI, 20, .inl ((va_up a_t_holders x1 (upd (a_t_holders x1) p1.toNatClampNeg p2)) 4))), ((d_t_holders 5), .inr (2, [.int (t_holders_sort 5), .long (t_holders_tree 5), .int (t_holders_limit 5), .ref (q_t_holders 5), .long (t_holders_above 5), .int (t_holders_size 5)])), ((q_t_holders 5), .inl (cI, 20, .inl ((va_up a_t_holders x1 (upd (a_t_holders x1) p1.toNatClampNeg p2)) 5)))] H := Eq.mp (congrArg (fun X9 => va_P G vwCl X9 H) he9) hP
  have hD : va_D A [(h_t, .inr (7, [.ref h_t_desk, .ref h_t_imageDesk, .ref h_t_deeds, .ref h_t_numbers, .ref h_t_tape, .ref h_t_reader, .ref h_t_speller, .ref h_t_holders, .int t_imageKept])), (h_t_holders, .inl (cH, 6, .inr (.inr (.inr (.inr (fun i => some (d_t_holders i))))))), ((d_t_holders 0), .inr (2, [.int (t_holders_sort 0), .long (t_holders_tree 0), .int (t_holders_limit 0), .ref (q_t_holders 0), .long (t_holders_above 0), .int (t_holders_size 0)])), ((q_t_holders 0), .inl (cI, 20, .inl ((va_up a_t_holders x1 (upd (a_t_holders x1) p1.toNatClampNeg p2)) 0))), ((d_t_holders 1), .inr (2, [.int (t_holders_sort 1), .long (t_holders_tree 1), .int (t_holders_limit 1), .ref (q_t_holders 1), .long (t_holders_above 1), .int (t_holders_size 1)])), ((q_t_holders 1), .inl (cI, 20, .inl ((va_up a_t_holders x1 (upd (a_t_holders x1) p1.toNatClampNeg p2)) 1))), ((d_t_holders 2), .inr (2, [.int (t_holders_sort 2), .long (t_holders_tree 2), .int (t_holders_limit 2), .ref (q_t_holders 2), .long (t_holders_above 2), .int (t_holders_size 2)])), ((q_t_holders 2), .inl (cI, 20, .inl ((va_up a_t_holders x1 (upd (a_t_holders x1) p1.toNatClampNeg p2)) 2))), ((d_t_holders 3), .inr (2, [.int (t_holders_sort 3), .long (t_holders_tree 3), .int (t_holders_limit 3), .ref (q_t_holders 3), .long (t_holders_above 3), .int (t_holders_size 3)])), ((q_t_holders 3), .inl (cI, 20, .inl ((va_up a_t_holders x1 (upd (a_t_holders x1) p1.toNatClampNeg p2)) 3))), ((d_t_holders 4), .inr (2, [.int (t_holders_sort 4), .long (t_holders_tree 4), .int (t_holders_limit 4), .ref (q_t_holders 4), .long (t_holders_above 4), .int (t_holders_size 4)])), ((q_t_holders 4), .inl (cI, 20, .inl ((va_up a_t_holders x1 (upd (a_t_holders x1) p1.toNatClampNeg p2)) 4))), ((d_t_holders 5), .inr (2, [.int (t_holders_sort 5), .long (t_holders_tree 5), .int (t_holders_limit 5), .ref (q_t_holders 5), .long (t_holders_above 5), .int (t_holders_size 5)])), ((q_t_holders 5), .inl (cI, 20, .inl ((va_up a_t_holders x1 (upd (a_t_holders x1) p1.toNatClampNeg p2)) 5)))] := Eq.mp (congrArg (fun X9 => va_D A X9) he9) hD
  have hP : va_P G vwCl [(h_t, .inr (7, [.ref h_t_desk, .ref h_t_imageDesk, .ref h_t_deeds, .ref h_t_numbers, .ref h_t_tape, .ref h_t_reader, .ref h_t_speller, .ref h_t_holders, .int t_imageKept])), (h_t_holders, .inl (cH, 6, .inr (.inr (.inr (.inr (fun i => some (d_t_holders i))))))), ((d_t_holders 0), .inr (2, [.int (t_holders_sort 0), .long (t_holders_tree 0), .int (t_holders_limit 0), .ref (q_t_holders 0), .long (t_holders_above 0), .int (t_holders_size 0)])), ((q_t_holders 0), .inl (cI, 20, .inl ((va_up a_t_holders x1 (upd (a_t_holders x1) p1.toNatClampNeg p2)) 0))), ((d_t_holders 1), .inr (2, [.int (t_holders_sort 1), .long (t_holders_tree 1), .int (t_holders_limit 1), .ref (q_t_holders 1), .long (t_holders_above 1), .int (t_holders_size 1)])), ((q_t_holders 1), .inl (cI, 20, .inl ((va_up a_t_holders x1 (upd (a_t_holders x1) p1.toNatClampNeg p2)) 1))), ((d_t_holders 2), .inr (2, [.int (t_holders_sort 2), .long (t_holders_tree 2), .int (t_holders_limit 2), .ref (q_t_holders 2), .long (t_holders_above 2), .int (t_holders_size 2)])), ((q_t_holders 2), .inl (cI, 20, .inl ((va_up a_t_holders x1 (upd (a_t_holders x1) p1.toNatClampNeg p2)) 2))), ((d_t_holders 3), .inr (2, [.int (t_holders_sort 3), .long (t_holders_tree 3), .int (t_holders_limit 3), .ref (q_t_holders 3), .long (t_holders_above 3), .int (t_holders_size 3)])), ((q_t_holders 3), .inl (cI, 20, .inl ((va_up a_t_holders x1 (upd (a_t_holders x1) p1.toNatClampNeg p2)) 3))), ((d_t_holders 4), .inr (2, [.int (t_holders_sort 4), .long (t_holders_tree 4), .int (t_holders_limit 4), .ref (q_t_holders 4), .long (t_holders_above 4), .int (t_holders_size 4)])), ((q_t_holders 4), .inl (cI, 20, .inl ((va_up a_t_holders x1 (upd (a_t_holders x1) p1.toNatClampNeg p2)) 4))), ((d_t_holders 5), .inr (2, [.int (t_holders_sort 5), .long (t_holders_tree 5), .int (t_holders_limit 5), .ref (q_t_holders 5), .long (t_holders_above 5), .int (t_holders_size 5)])), ((q_t_holders 5), .inl (cI, 20, .inl ((va_up a_t_holders x1 (upd (a_t_holders x1) p1.toNatClampNeg p2)) 5)))] H := hP
  have hD : va_D A [(h_t, .inr (7, [.ref h_t_desk, .ref h_t_imageDesk, .ref h_t_deeds, .ref h_t_numbers, .ref h_t_tape, .ref h_t_reader, .ref h_t_speller, .ref h_t_holders, .int t_imageKept])), (h_t_holders, .inl (cH, 6, .inr (.inr (.inr (.inr (fun i => some (d_t_holders i))))))), ((d_t_holders 0), .inr (2, [.int (t_holders_sort 0), .long (t_holders_tree 0), .int (t_holders_limit 0), .ref (q_t_holders 0), .long (t_holders_above 0), .int (t_holders_size 0)])), ((q_t_holders 0), .inl (cI, 20, .inl ((va_up a_t_holders x1 (upd (a_t_holders x1) p1.toNatClampNeg p2)) 0))), ((d_t_holders 1), .inr (2, [.int (t_holders_sort 1), .long (t_holders_tree 1), .int (t_holders_limit 1), .ref (q_t_holders 1), .long (t_holders_above 1), .int (t_holders_size 1)])), ((q_t_holders 1), .inl (cI, 20, .inl ((va_up a_t_holders x1 (upd (a_t_holders x1) p1.toNatClampNeg p2)) 1))), ((d_t_holders 2), .inr (2, [.int (t_holders_sort 2), .long (t_holders_tree 2), .int (t_holders_limit 2), .ref (q_t_holders 2), .long (t_holders_above 2), .int (t_holders_size 2)])), ((q_t_holders 2), .inl (cI, 20, .inl ((va_up a_t_holders x1 (upd (a_t_holders x1) p1.toNatClampNeg p2)) 2))), ((d_t_holders 3), .inr (2, [.int (t_holders_sort 3), .long (t_holders_tree 3), .int (t_holders_limit 3), .ref (q_t_holders 3), .long (t_holders_above 3), .int (t_holders_size 3)])), ((q_t_holders 3), .inl (cI, 20, .inl ((va_up a_t_holders x1 (upd (a_t_holders x1) p1.toNatClampNeg p2)) 3))), ((d_t_holders 4), .inr (2, [.int (t_holders_sort 4), .long (t_holders_tree 4), .int (t_holders_limit 4), .ref (q_t_holders 4), .long (t_holders_above 4), .int (t_holders_size 4)])), ((q_t_holders 4), .inl (cI, 20, .inl ((va_up a_t_holders x1 (upd (a_t_holders x1) p1.toNatClampNeg p2)) 4))), ((d_t_holders 5), .inr (2, [.int (t_holders_sort 5), .long (t_holders_tree 5), .int (t_holders_limit 5), .ref (q_t_holders 5), .long (t_holders_above 5), .int (t_holders_size 5)])), ((q_t_holders 5), .inl (cI, 20, .inl ((va_up a_t_holders x1 (upd (a_t_holders x1) p1.toNatClampNeg p2)) 5)))] := hD
  refine lv_iconst (v := (1 : Int32)) hx hb dX8_set_48 (by decide) ?_
  have h9 := Option.some.inj h
  have e9 : (1 : Int32) = r0 := congrArg (fun z9 => z9.1) h9
  subst e9
  have e9 : (va_up a_t_holders x1 (upd (a_t_holders x1) p1.toNatClampNeg p2)) = w0 := congrArg (fun z9 => z9.2) h9
  subst e9
  exact k_iret hx hb hr hlocks hP hS rfl dX8_set_49

/-! X8_get -/
set_option maxHeartbeats 40000000 in
set_option maxRecDepth 100000 in
theorem c_X8_get (l : Launch) (G : va_G) (cI cJ cD cH : ClassId) (sz : Nat) (h_t : Nat) (h_t_holders : Nat) (h_t_desk : Nat) (h_t_imageDesk : Nat) (h_t_deeds : Nat) (h_t_numbers : Nat) (h_t_tape : Nat) (h_t_reader : Nat) (h_t_speller : Nat) (d_t_holders : Nat → Nat) (q_t_holders : Nat → Nat) (a_t_holders : Nat → Nat → Int32) (t_holders_sort : Nat → Int32) (t_holders_tree : Nat → Int64) (t_holders_limit : Nat → Int32) (t_holders_above : Nat → Int64) (t_holders_size : Nat → Int32) (t_imageKept : Int32) (p0 : Int32) (p1 : Int32) (r0 : Int64) (hF : F_X8_get a_t_holders t_holders_sort t_holders_size p0 p1 = some r0) : Met l yX8_get wsX8_get ({ frames := 1, cells := 0, slots := 0, locals := 21 }) (k_pre G (k_T cI cJ cD cH) [(h_t, .inr (7, [.ref h_t_desk, .ref h_t_imageDesk, .ref h_t_deeds, .ref h_t_numbers, .ref h_t_tape, .ref h_t_reader, .ref h_t_speller, .ref h_t_holders, .int t_imageKept])), (h_t_holders, .inl (cH, 6, .inr (.inr (.inr (.inr (fun i => some (d_t_holders i))))))), ((d_t_holders 0), .inr (2, [.int (t_holders_sort 0), .long (t_holders_tree 0), .int (t_holders_limit 0), .ref (q_t_holders 0), .long (t_holders_above 0), .int (t_holders_size 0)])), ((q_t_holders 0), .inl (cI, 20, .inl (a_t_holders 0))), ((d_t_holders 1), .inr (2, [.int (t_holders_sort 1), .long (t_holders_tree 1), .int (t_holders_limit 1), .ref (q_t_holders 1), .long (t_holders_above 1), .int (t_holders_size 1)])), ((q_t_holders 1), .inl (cI, 20, .inl (a_t_holders 1))), ((d_t_holders 2), .inr (2, [.int (t_holders_sort 2), .long (t_holders_tree 2), .int (t_holders_limit 2), .ref (q_t_holders 2), .long (t_holders_above 2), .int (t_holders_size 2)])), ((q_t_holders 2), .inl (cI, 20, .inl (a_t_holders 2))), ((d_t_holders 3), .inr (2, [.int (t_holders_sort 3), .long (t_holders_tree 3), .int (t_holders_limit 3), .ref (q_t_holders 3), .long (t_holders_above 3), .int (t_holders_size 3)])), ((q_t_holders 3), .inl (cI, 20, .inl (a_t_holders 3))), ((d_t_holders 4), .inr (2, [.int (t_holders_sort 4), .long (t_holders_tree 4), .int (t_holders_limit 4), .ref (q_t_holders 4), .long (t_holders_above 4), .int (t_holders_size 4)])), ((q_t_holders 4), .inl (cI, 20, .inl (a_t_holders 4))), ((d_t_holders 5), .inr (2, [.int (t_holders_sort 5), .long (t_holders_tree 5), .int (t_holders_limit 5), .ref (q_t_holders 5), .long (t_holders_above 5), .int (t_holders_size 5)])), ((q_t_holders 5), .inl (cI, 20, .inl (a_t_holders 5)))] sz [.ref h_t, .int p0, .int p1]) (va_Ql (fun r (_ : Unit) => r = r0 ∧ True) (fun _ t => va_P G vwCl [(h_t, .inr (7, [.ref h_t_desk, .ref h_t_imageDesk, .ref h_t_deeds, .ref h_t_numbers, .ref h_t_tape, .ref h_t_reader, .ref h_t_speller, .ref h_t_holders, .int t_imageKept])), (h_t_holders, .inl (cH, 6, .inr (.inr (.inr (.inr (fun i => some (d_t_holders i))))))), ((d_t_holders 0), .inr (2, [.int (t_holders_sort 0), .long (t_holders_tree 0), .int (t_holders_limit 0), .ref (q_t_holders 0), .long (t_holders_above 0), .int (t_holders_size 0)])), ((q_t_holders 0), .inl (cI, 20, .inl (a_t_holders 0))), ((d_t_holders 1), .inr (2, [.int (t_holders_sort 1), .long (t_holders_tree 1), .int (t_holders_limit 1), .ref (q_t_holders 1), .long (t_holders_above 1), .int (t_holders_size 1)])), ((q_t_holders 1), .inl (cI, 20, .inl (a_t_holders 1))), ((d_t_holders 2), .inr (2, [.int (t_holders_sort 2), .long (t_holders_tree 2), .int (t_holders_limit 2), .ref (q_t_holders 2), .long (t_holders_above 2), .int (t_holders_size 2)])), ((q_t_holders 2), .inl (cI, 20, .inl (a_t_holders 2))), ((d_t_holders 3), .inr (2, [.int (t_holders_sort 3), .long (t_holders_tree 3), .int (t_holders_limit 3), .ref (q_t_holders 3), .long (t_holders_above 3), .int (t_holders_size 3)])), ((q_t_holders 3), .inl (cI, 20, .inl (a_t_holders 3))), ((d_t_holders 4), .inr (2, [.int (t_holders_sort 4), .long (t_holders_tree 4), .int (t_holders_limit 4), .ref (q_t_holders 4), .long (t_holders_above 4), .int (t_holders_size 4)])), ((q_t_holders 4), .inl (cI, 20, .inl (a_t_holders 4))), ((d_t_holders 5), .inr (2, [.int (t_holders_sort 5), .long (t_holders_tree 5), .int (t_holders_limit 5), .ref (q_t_holders 5), .long (t_holders_above 5), .int (t_holders_size 5)])), ((q_t_holders 5), .inl (cI, 20, .inl (a_t_holders 5)))] t.heap) (va_A [(h_t, .inr (7, [.ref h_t_desk, .ref h_t_imageDesk, .ref h_t_deeds, .ref h_t_numbers, .ref h_t_tape, .ref h_t_reader, .ref h_t_speller, .ref h_t_holders, .int t_imageKept])), (h_t_holders, .inl (cH, 6, .inr (.inr (.inr (.inr (fun i => some (d_t_holders i))))))), ((d_t_holders 0), .inr (2, [.int (t_holders_sort 0), .long (t_holders_tree 0), .int (t_holders_limit 0), .ref (q_t_holders 0), .long (t_holders_above 0), .int (t_holders_size 0)])), ((q_t_holders 0), .inl (cI, 20, .inl (a_t_holders 0))), ((d_t_holders 1), .inr (2, [.int (t_holders_sort 1), .long (t_holders_tree 1), .int (t_holders_limit 1), .ref (q_t_holders 1), .long (t_holders_above 1), .int (t_holders_size 1)])), ((q_t_holders 1), .inl (cI, 20, .inl (a_t_holders 1))), ((d_t_holders 2), .inr (2, [.int (t_holders_sort 2), .long (t_holders_tree 2), .int (t_holders_limit 2), .ref (q_t_holders 2), .long (t_holders_above 2), .int (t_holders_size 2)])), ((q_t_holders 2), .inl (cI, 20, .inl (a_t_holders 2))), ((d_t_holders 3), .inr (2, [.int (t_holders_sort 3), .long (t_holders_tree 3), .int (t_holders_limit 3), .ref (q_t_holders 3), .long (t_holders_above 3), .int (t_holders_size 3)])), ((q_t_holders 3), .inl (cI, 20, .inl (a_t_holders 3))), ((d_t_holders 4), .inr (2, [.int (t_holders_sort 4), .long (t_holders_tree 4), .int (t_holders_limit 4), .ref (q_t_holders 4), .long (t_holders_above 4), .int (t_holders_size 4)])), ((q_t_holders 4), .inl (cI, 20, .inl (a_t_holders 4))), ((d_t_holders 5), .inr (2, [.int (t_holders_sort 5), .long (t_holders_tree 5), .int (t_holders_limit 5), .ref (q_t_holders 5), .long (t_holders_above 5), .int (t_holders_size 5)])), ((q_t_holders 5), .inl (cI, 20, .inl (a_t_holders 5)))] sz)) 0 0 (va_A [(h_t, .inr (7, [.ref h_t_desk, .ref h_t_imageDesk, .ref h_t_deeds, .ref h_t_numbers, .ref h_t_tape, .ref h_t_reader, .ref h_t_speller, .ref h_t_holders, .int t_imageKept])), (h_t_holders, .inl (cH, 6, .inr (.inr (.inr (.inr (fun i => some (d_t_holders i))))))), ((d_t_holders 0), .inr (2, [.int (t_holders_sort 0), .long (t_holders_tree 0), .int (t_holders_limit 0), .ref (q_t_holders 0), .long (t_holders_above 0), .int (t_holders_size 0)])), ((q_t_holders 0), .inl (cI, 20, .inl (a_t_holders 0))), ((d_t_holders 1), .inr (2, [.int (t_holders_sort 1), .long (t_holders_tree 1), .int (t_holders_limit 1), .ref (q_t_holders 1), .long (t_holders_above 1), .int (t_holders_size 1)])), ((q_t_holders 1), .inl (cI, 20, .inl (a_t_holders 1))), ((d_t_holders 2), .inr (2, [.int (t_holders_sort 2), .long (t_holders_tree 2), .int (t_holders_limit 2), .ref (q_t_holders 2), .long (t_holders_above 2), .int (t_holders_size 2)])), ((q_t_holders 2), .inl (cI, 20, .inl (a_t_holders 2))), ((d_t_holders 3), .inr (2, [.int (t_holders_sort 3), .long (t_holders_tree 3), .int (t_holders_limit 3), .ref (q_t_holders 3), .long (t_holders_above 3), .int (t_holders_size 3)])), ((q_t_holders 3), .inl (cI, 20, .inl (a_t_holders 3))), ((d_t_holders 4), .inr (2, [.int (t_holders_sort 4), .long (t_holders_tree 4), .int (t_holders_limit 4), .ref (q_t_holders 4), .long (t_holders_above 4), .int (t_holders_size 4)])), ((q_t_holders 4), .inl (cI, 20, .inl (a_t_holders 4))), ((d_t_holders 5), .inr (2, [.int (t_holders_sort 5), .long (t_holders_tree 5), .int (t_holders_limit 5), .ref (q_t_holders 5), .long (t_holders_above 5), .int (t_holders_size 5)])), ((q_t_holders 5), .inl (cI, 20, .inl (a_t_holders 5)))] sz) := by
  refine Met.ofW (cc := cX8_get) (maxL := 4) (ret := (some .long)) (by decide) rfl ?_
  intro p e s m args below meth c s₁ B hml hv
  obtain ⟨rfl, hsz, hP, hK, hD0⟩ := hv
  have hx := B.exec
  have hb := B.bytes
  have hr := B.returns
  have hts := atoms_spec (ws := wsX8_get) B.pre
  have hta : ∀ w ∈ wA, w.before ([.ref h_t, .int p0, .int p1] : List Value).toArray s = true := hta_of hts
  have hown : s.vm.findClass RX8 = some m.cls := findClass_of_methodNamed B.named
  have hlocks := B.notSynchronized
  subst hsz
  have hD := hD0.self (sz := s.heap.size)
  generalize hAe : va_A [(h_t, .inr (7, [.ref h_t_desk, .ref h_t_imageDesk, .ref h_t_deeds, .ref h_t_numbers, .ref h_t_tape, .ref h_t_reader, .ref h_t_speller, .ref h_t_holders, .int t_imageKept])), (h_t_holders, .inl (cH, 6, .inr (.inr (.inr (.inr (fun i => some (d_t_holders i))))))), ((d_t_holders 0), .inr (2, [.int (t_holders_sort 0), .long (t_holders_tree 0), .int (t_holders_limit 0), .ref (q_t_holders 0), .long (t_holders_above 0), .int (t_holders_size 0)])), ((q_t_holders 0), .inl (cI, 20, .inl (a_t_holders 0))), ((d_t_holders 1), .inr (2, [.int (t_holders_sort 1), .long (t_holders_tree 1), .int (t_holders_limit 1), .ref (q_t_holders 1), .long (t_holders_above 1), .int (t_holders_size 1)])), ((q_t_holders 1), .inl (cI, 20, .inl (a_t_holders 1))), ((d_t_holders 2), .inr (2, [.int (t_holders_sort 2), .long (t_holders_tree 2), .int (t_holders_limit 2), .ref (q_t_holders 2), .long (t_holders_above 2), .int (t_holders_size 2)])), ((q_t_holders 2), .inl (cI, 20, .inl (a_t_holders 2))), ((d_t_holders 3), .inr (2, [.int (t_holders_sort 3), .long (t_holders_tree 3), .int (t_holders_limit 3), .ref (q_t_holders 3), .long (t_holders_above 3), .int (t_holders_size 3)])), ((q_t_holders 3), .inl (cI, 20, .inl (a_t_holders 3))), ((d_t_holders 4), .inr (2, [.int (t_holders_sort 4), .long (t_holders_tree 4), .int (t_holders_limit 4), .ref (q_t_holders 4), .long (t_holders_above 4), .int (t_holders_size 4)])), ((q_t_holders 4), .inl (cI, 20, .inl (a_t_holders 4))), ((d_t_holders 5), .inr (2, [.int (t_holders_sort 5), .long (t_holders_tree 5), .int (t_holders_limit 5), .ref (q_t_holders 5), .long (t_holders_above 5), .int (t_holders_size 5)])), ((q_t_holders 5), .inl (cI, 20, .inl (a_t_holders 5)))] s.heap.size = A at hD ⊢
  have hA : ∀ q : Nat, s.heap.size ≤ q → A q := fun q h => by rw [← hAe]; exact Or.inr h
  have hS : va_S A s.heap s.heap [] := va_S.rf
  have hl := lv_entry ([.ref h_t, .int p0, .int p1]) (n := 4) (Nat.le_of_ble_eq_true rfl)
  rw [lg_entry_eq]
  generalize (lg_sl ([.ref h_t, .int p0, .int p1]) ++ List.replicate (4 - (lg_sl ([.ref h_t, .int p0, .int p1])).length) Slot.unset).toArray = ls at hl ⊢
  have hl : lv_has ls 4 [(0, .ref h_t), (1, .int p0), (2, .int p1)] := hl
  have hinX2 : ∀ w ∈ wsX20, w ∈ wsX8_get := hin_of in_X2
  have h := hF
  unfold F_X8_get at h
  refine lv_aload_n hx hb dX8_get_0 rfl (lv_at hl 0 rfl) ?_
  refine lv_iload_n hx hb dX8_get_1 rfl (lv_at hl 1 rfl) ?_
  obtain ⟨x1, hx1, h⟩ := bd_e h
  try dsimp only at h
  have hc1 := k_lt_X8_holderAt hx1
  by_cases hd1 : x1 = 6
  · subst hd1
    refine k_VqU (n := 1) (As := [.int p0]) (rest := []) hx hb hml hown hts (c_X8_holderAt l G cI cJ cD cH s.heap.size h_t h_t_holders h_t_desk h_t_imageDesk h_t_deeds h_t_numbers h_t_tape h_t_reader h_t_speller d_t_holders q_t_holders a_t_holders t_holders_sort t_holders_tree t_holders_limit t_holders_above t_holders_size t_imageKept p0 6 hx1) gX8_get_X8_holderAt rfl rfl rfl (by decide +kernel) ⟨by first | exact Nat.le_of_ble_eq_true rfl | (simp only [headSpec]; omega), by first | exact Nat.le_of_ble_eq_true rfl | (simp only [headSpec]; omega)⟩ hK hP hD hS hA [0, 1, 2, 3, 4, 5, 6, 7, 8, 9, 10, 11, 12, 13] (by decide) rfl (ci := 7) rfl rfl rfl rfl rfl hl.1 (Nat.le_of_ble_eq_true rfl) dX8_get_2 ⟨Nat.zero_le _, Nat.zero_le _⟩ (fun hp1 H locs hP hS => ?_)
    refine W.eq (g2 := F0 m 5 ls [.null]) rfl ?_
    have h := it_p h rfl
    refine lv_astore_nN (lv' := [(3, .null), (0, .ref h_t), (1, .int p0), (2, .int p1)]) hx hb dX8_get_5 rfl hl (by decide) rfl (fun ls hl => ?_)
    refine lv_aload_nN hx hb dX8_get_6 rfl (lv_at hl 0 rfl) ?_
    refine lv_ifnullN (tgt := 26) hx hb dX8_get_7 (by decide) ?_
    refine lv_ldc2 (v := (-9223372036854775808 : Int64)) hx hb hown (hta _ mw_420) dX8_get_26 ?_
    have h9 := Option.some.inj h
    have e9 : (-9223372036854775808 : Int64) = r0 := congrArg (fun z9 => z9) h9
    subst e9
    exact k_lret hx hb hr hlocks hP hS rfl dX8_get_29
  have hb1 : x1 < 6 := by omega
  refine k_VqU (n := 1) (As := [.int p0]) (rest := []) hx hb hml hown hts (c_X8_holderAt l G cI cJ cD cH s.heap.size h_t h_t_holders h_t_desk h_t_imageDesk h_t_deeds h_t_numbers h_t_tape h_t_reader h_t_speller d_t_holders q_t_holders a_t_holders t_holders_sort t_holders_tree t_holders_limit t_holders_above t_holders_size t_imageKept p0 x1 hx1) gX8_get_X8_holderAt rfl rfl rfl (by decide +kernel) ⟨by first | exact Nat.le_of_ble_eq_true rfl | (simp only [headSpec]; omega), by first | exact Nat.le_of_ble_eq_true rfl | (simp only [headSpec]; omega)⟩ hK hP hD hS hA [0, 1, 2, 3, 4, 5, 6, 7, 8, 9, 10, 11, 12, 13] (by decide) rfl (ci := 7) rfl rfl rfl rfl rfl hl.1 (Nat.le_of_ble_eq_true rfl) dX8_get_2 ⟨Nat.zero_le _, Nat.zero_le _⟩ (fun hp1 H locs hP hS => ?_)
  refine W.eq (g2 := F0 m 5 ls [.ref (d_t_holders x1)]) (by rw [if_neg hd1]; rfl) ?_
  have h := it_n h hd1
  refine lv_astore_n (lv' := [(3, .ref (d_t_holders x1)), (0, .ref h_t), (1, .int p0), (2, .int p1)]) hx hb dX8_get_5 rfl hl (by decide) rfl (fun ls hl => ?_)
  refine lv_aload_n hx hb dX8_get_6 rfl (lv_at hl 0 rfl) ?_
  refine lv_ifnull hx hb dX8_get_7 ?_
  refine lv_aload_n hx hb dX8_get_10 rfl (lv_at hl 0 rfl) ?_
  refine va_get (D := G) (fs := [.int (t_holders_sort x1), .long (t_holders_tree x1), .int (t_holders_limit x1), .ref (q_t_holders x1), .long (t_holders_above x1), .int (t_holders_size x1)]) (ci := 2) (v := .int (t_holders_sort x1)) (C := RX2) (T := TX2) (N := 6) hx hb hts hinX2 hown hK hP (2 + 2 * x1) (by obtain rfl | rfl | rfl | rfl | rfl | rfl := k_lt6 hb1 <;> rfl) rfl 0 (by decide) (hta _ mw_569) (fun _ h9 => h9) rfl dX8_get_11 ?_
  refine lv_iconst (v := (3 : Int32)) hx hb dX8_get_14 (by decide) ?_
  refine lv_icmp_ne (tgt := 26) hx hb dX8_get_15 (by decide) (fun c2 => ?_) (fun c2 => ?_)
  · have h := it_n h c2
    refine lv_ldc2 (v := (-9223372036854775808 : Int64)) hx hb hown (hta _ mw_420) dX8_get_26 ?_
    have h9 := Option.some.inj h
    have e9 : (-9223372036854775808 : Int64) = r0 := congrArg (fun z9 => z9) h9
    subst e9
    exact k_lret hx hb hr hlocks hP hS rfl dX8_get_29
  have h := it_p h c2
  refine lv_aload_n hx hb dX8_get_18 rfl (lv_at hl 0 rfl) ?_
  refine lv_iload_n hx hb dX8_get_19 rfl (lv_at hl 3 rfl) ?_
  obtain ⟨x3, hx3, h⟩ := bd_e h
  try dsimp only at h
  refine k_ViU (n := 1) (As := [.int p1]) (rest := []) hx hb hml hown hts (c_X2_hasPlace l G cI cJ cD cH H.size (d_t_holders x1) (q_t_holders x1) (t_holders_sort x1) (t_holders_tree x1) (t_holders_limit x1) (t_holders_above x1) (t_holders_size x1) p1 x3 hx3) gX8_get_X2_hasPlace rfl rfl rfl (by decide +kernel) ⟨by first | exact Nat.le_of_ble_eq_true rfl | (simp only [headSpec]; omega), by first | exact Nat.le_of_ble_eq_true rfl | (simp only [headSpec]; omega)⟩ hK hP hD hS hA [(2 + 2 * x1)] (by obtain rfl | rfl | rfl | rfl | rfl | rfl := k_lt6 hb1 <;> decide) (by obtain rfl | rfl | rfl | rfl | rfl | rfl := k_lt6 hb1 <;> rfl) (ci := 2) rfl rfl rfl rfl rfl hl.1 (Nat.le_of_ble_eq_true rfl) dX8_get_20 ⟨Nat.zero_le _, Nat.zero_le _⟩ (fun hp3 H locs hP hS => ?_)
  refine lv_if_ne (tgt := 30) hx hb dX8_get_23 (by decide) (fun c4 => ?_) (fun c4 => ?_)
  rotate_left
  · have h := it_p h c4
    refine lv_ldc2 (v := (-9223372036854775808 : Int64)) hx hb hown (hta _ mw_420) dX8_get_26 ?_
    have h9 := Option.some.inj h
    have e9 : (-9223372036854775808 : Int64) = r0 := congrArg (fun z9 => z9) h9
    subst e9
    exact k_lret hx hb hr hlocks hP hS rfl dX8_get_29
  have h := it_n h c4
  refine lv_aload_n hx hb dX8_get_30 rfl (lv_at hl 0 rfl) ?_
  refine va_get (D := G) (fs := [.int (t_holders_sort x1), .long (t_holders_tree x1), .int (t_holders_limit x1), .ref (q_t_holders x1), .long (t_holders_above x1), .int (t_holders_size x1)]) (ci := 2) (v := .ref (q_t_holders x1)) (C := RX2) (T := TX2) (N := 6) hx hb hts hinX2 hown hK hP (2 + 2 * x1) (by obtain rfl | rfl | rfl | rfl | rfl | rfl := k_lt6 hb1 <;> rfl) rfl 3 (by decide) (hta _ mw_588) (fun _ h9 => h9) rfl dX8_get_31 ?_
  refine lv_iload_n hx hb dX8_get_34 rfl (lv_at hl 3 rfl) ?_
  obtain ⟨hn5, h⟩ := ck_e h
  refine va_iald (cA := cI) (n := 20) (f := (a_t_holders x1)) hx hb hK hP (3 + 2 * x1) 0 (by obtain rfl | rfl | rfl | rfl | rfl | rfl := k_lt6 hb1 <;> rfl) rfl hn5 dX8_get_35 ?_
  refine lv_i2l (v := ((a_t_holders x1) p1.toNatClampNeg).toInt64) hx hb dX8_get_36 (by first | rfl | decide) ?_
  have h9 := Option.some.inj h
  have e9 : ((a_t_holders x1) p1.toNatClampNeg).toInt64 = r0 := congrArg (fun z9 => z9) h9
  subst e9
  exact k_lret hx hb hr hlocks hP hS rfl dX8_get_37

/-! X8_judge -/
set_option maxHeartbeats 40000000 in
set_option maxRecDepth 100000 in
theorem c_X8_judge (l : Launch) (G : va_G) (cI cJ cD cH : ClassId) (sz : Nat) (h_t : Nat) (h_t_holders : Nat) (h_t_desk : Nat) (h_t_imageDesk : Nat) (h_t_deeds : Nat) (h_t_numbers : Nat) (h_t_tape : Nat) (h_t_reader : Nat) (h_t_speller : Nat) (h_t_desk_powers : Nat) (d_t_holders : Nat → Nat) (q_t_holders : Nat → Nat) (a_t_holders : Nat → Nat → Int32) (t_holders_sort : Nat → Int32) (t_holders_tree : Nat → Int64) (t_holders_limit : Nat → Int32) (t_holders_above : Nat → Int64) (t_holders_size : Nat → Int32) (t_imageKept : Int32) (t_desk_genus : Int32) (t_desk_size : Int32) (t_desk_limit : Int32) (t_desk_tree : Int64) (p0 : Int32) (r0 : Int32) (hF : F_X8_judge a_t_holders t_holders_sort t_holders_size t_desk_tree p0 = some r0) : Met l yX8_judge wsX8_judge ({ frames := 3, cells := 0, slots := 0, locals := 70 }) (k_pre G (k_T cI cJ cD cH) [(h_t, .inr (7, [.ref h_t_desk, .ref h_t_imageDesk, .ref h_t_deeds, .ref h_t_numbers, .ref h_t_tape, .ref h_t_reader, .ref h_t_speller, .ref h_t_holders, .int t_imageKept])), (h_t_holders, .inl (cH, 6, .inr (.inr (.inr (.inr (fun i => some (d_t_holders i))))))), ((d_t_holders 0), .inr (2, [.int (t_holders_sort 0), .long (t_holders_tree 0), .int (t_holders_limit 0), .ref (q_t_holders 0), .long (t_holders_above 0), .int (t_holders_size 0)])), ((q_t_holders 0), .inl (cI, 20, .inl (a_t_holders 0))), ((d_t_holders 1), .inr (2, [.int (t_holders_sort 1), .long (t_holders_tree 1), .int (t_holders_limit 1), .ref (q_t_holders 1), .long (t_holders_above 1), .int (t_holders_size 1)])), ((q_t_holders 1), .inl (cI, 20, .inl (a_t_holders 1))), ((d_t_holders 2), .inr (2, [.int (t_holders_sort 2), .long (t_holders_tree 2), .int (t_holders_limit 2), .ref (q_t_holders 2), .long (t_holders_above 2), .int (t_holders_size 2)])), ((q_t_holders 2), .inl (cI, 20, .inl (a_t_holders 2))), ((d_t_holders 3), .inr (2, [.int (t_holders_sort 3), .long (t_holders_tree 3), .int (t_holders_limit 3), .ref (q_t_holders 3), .long (t_holders_above 3), .int (t_holders_size 3)])), ((q_t_holders 3), .inl (cI, 20, .inl (a_t_holders 3))), ((d_t_holders 4), .inr (2, [.int (t_holders_sort 4), .long (t_holders_tree 4), .int (t_holders_limit 4), .ref (q_t_holders 4), .long (t_holders_above 4), .int (t_holders_size 4)])), ((q_t_holders 4), .inl (cI, 20, .inl (a_t_holders 4))), ((d_t_holders 5), .inr (2, [.int (t_holders_sort 5), .long (t_holders_tree 5), .int (t_holders_limit 5), .ref (q_t_holders 5), .long (t_holders_above 5), .int (t_holders_size 5)])), ((q_t_holders 5), .inl (cI, 20, .inl (a_t_holders 5))), (h_t_desk, .inr (1, [.int t_desk_genus, .int t_desk_size, .ref h_t_desk_powers, .int t_desk_limit, .long t_desk_tree]))] sz [.ref h_t, .int p0]) (va_Qi (fun r (_ : Unit) => r = r0 ∧ True) (fun _ t => va_P G vwCl [(h_t, .inr (7, [.ref h_t_desk, .ref h_t_imageDesk, .ref h_t_deeds, .ref h_t_numbers, .ref h_t_tape, .ref h_t_reader, .ref h_t_speller, .ref h_t_holders, .int t_imageKept])), (h_t_holders, .inl (cH, 6, .inr (.inr (.inr (.inr (fun i => some (d_t_holders i))))))), ((d_t_holders 0), .inr (2, [.int (t_holders_sort 0), .long (t_holders_tree 0), .int (t_holders_limit 0), .ref (q_t_holders 0), .long (t_holders_above 0), .int (t_holders_size 0)])), ((q_t_holders 0), .inl (cI, 20, .inl (a_t_holders 0))), ((d_t_holders 1), .inr (2, [.int (t_holders_sort 1), .long (t_holders_tree 1), .int (t_holders_limit 1), .ref (q_t_holders 1), .long (t_holders_above 1), .int (t_holders_size 1)])), ((q_t_holders 1), .inl (cI, 20, .inl (a_t_holders 1))), ((d_t_holders 2), .inr (2, [.int (t_holders_sort 2), .long (t_holders_tree 2), .int (t_holders_limit 2), .ref (q_t_holders 2), .long (t_holders_above 2), .int (t_holders_size 2)])), ((q_t_holders 2), .inl (cI, 20, .inl (a_t_holders 2))), ((d_t_holders 3), .inr (2, [.int (t_holders_sort 3), .long (t_holders_tree 3), .int (t_holders_limit 3), .ref (q_t_holders 3), .long (t_holders_above 3), .int (t_holders_size 3)])), ((q_t_holders 3), .inl (cI, 20, .inl (a_t_holders 3))), ((d_t_holders 4), .inr (2, [.int (t_holders_sort 4), .long (t_holders_tree 4), .int (t_holders_limit 4), .ref (q_t_holders 4), .long (t_holders_above 4), .int (t_holders_size 4)])), ((q_t_holders 4), .inl (cI, 20, .inl (a_t_holders 4))), ((d_t_holders 5), .inr (2, [.int (t_holders_sort 5), .long (t_holders_tree 5), .int (t_holders_limit 5), .ref (q_t_holders 5), .long (t_holders_above 5), .int (t_holders_size 5)])), ((q_t_holders 5), .inl (cI, 20, .inl (a_t_holders 5))), (h_t_desk, .inr (1, [.int t_desk_genus, .int t_desk_size, .ref h_t_desk_powers, .int t_desk_limit, .long t_desk_tree]))] t.heap) (va_A [(h_t, .inr (7, [.ref h_t_desk, .ref h_t_imageDesk, .ref h_t_deeds, .ref h_t_numbers, .ref h_t_tape, .ref h_t_reader, .ref h_t_speller, .ref h_t_holders, .int t_imageKept])), (h_t_holders, .inl (cH, 6, .inr (.inr (.inr (.inr (fun i => some (d_t_holders i))))))), ((d_t_holders 0), .inr (2, [.int (t_holders_sort 0), .long (t_holders_tree 0), .int (t_holders_limit 0), .ref (q_t_holders 0), .long (t_holders_above 0), .int (t_holders_size 0)])), ((q_t_holders 0), .inl (cI, 20, .inl (a_t_holders 0))), ((d_t_holders 1), .inr (2, [.int (t_holders_sort 1), .long (t_holders_tree 1), .int (t_holders_limit 1), .ref (q_t_holders 1), .long (t_holders_above 1), .int (t_holders_size 1)])), ((q_t_holders 1), .inl (cI, 20, .inl (a_t_holders 1))), ((d_t_holders 2), .inr (2, [.int (t_holders_sort 2), .long (t_holders_tree 2), .int (t_holders_limit 2), .ref (q_t_holders 2), .long (t_holders_above 2), .int (t_holders_size 2)])), ((q_t_holders 2), .inl (cI, 20, .inl (a_t_holders 2))), ((d_t_holders 3), .inr (2, [.int (t_holders_sort 3), .long (t_holders_tree 3), .int (t_holders_limit 3), .ref (q_t_holders 3), .long (t_holders_above 3), .int (t_holders_size 3)])), ((q_t_holders 3), .inl (cI, 20, .inl (a_t_holders 3))), ((d_t_holders 4), .inr (2, [.int (t_holders_sort 4), .long (t_holders_tree 4), .int (t_holders_limit 4), .ref (q_t_holders 4), .long (t_holders_above 4), .int (t_holders_size 4)])), ((q_t_holders 4), .inl (cI, 20, .inl (a_t_holders 4))), ((d_t_holders 5), .inr (2, [.int (t_holders_sort 5), .long (t_holders_tree 5), .int (t_holders_limit 5), .ref (q_t_holders 5), .long (t_holders_above 5), .int (t_holders_size 5)])), ((q_t_holders 5), .inl (cI, 20, .inl (a_t_holders 5))), (h_t_desk, .inr (1, [.int t_desk_genus, .int t_desk_size, .ref h_t_desk_powers, .int t_desk_limit, .long t_desk_tree]))] sz)) 0 0 (va_A [(h_t, .inr (7, [.ref h_t_desk, .ref h_t_imageDesk, .ref h_t_deeds, .ref h_t_numbers, .ref h_t_tape, .ref h_t_reader, .ref h_t_speller, .ref h_t_holders, .int t_imageKept])), (h_t_holders, .inl (cH, 6, .inr (.inr (.inr (.inr (fun i => some (d_t_holders i))))))), ((d_t_holders 0), .inr (2, [.int (t_holders_sort 0), .long (t_holders_tree 0), .int (t_holders_limit 0), .ref (q_t_holders 0), .long (t_holders_above 0), .int (t_holders_size 0)])), ((q_t_holders 0), .inl (cI, 20, .inl (a_t_holders 0))), ((d_t_holders 1), .inr (2, [.int (t_holders_sort 1), .long (t_holders_tree 1), .int (t_holders_limit 1), .ref (q_t_holders 1), .long (t_holders_above 1), .int (t_holders_size 1)])), ((q_t_holders 1), .inl (cI, 20, .inl (a_t_holders 1))), ((d_t_holders 2), .inr (2, [.int (t_holders_sort 2), .long (t_holders_tree 2), .int (t_holders_limit 2), .ref (q_t_holders 2), .long (t_holders_above 2), .int (t_holders_size 2)])), ((q_t_holders 2), .inl (cI, 20, .inl (a_t_holders 2))), ((d_t_holders 3), .inr (2, [.int (t_holders_sort 3), .long (t_holders_tree 3), .int (t_holders_limit 3), .ref (q_t_holders 3), .long (t_holders_above 3), .int (t_holders_size 3)])), ((q_t_holders 3), .inl (cI, 20, .inl (a_t_holders 3))), ((d_t_holders 4), .inr (2, [.int (t_holders_sort 4), .long (t_holders_tree 4), .int (t_holders_limit 4), .ref (q_t_holders 4), .long (t_holders_above 4), .int (t_holders_size 4)])), ((q_t_holders 4), .inl (cI, 20, .inl (a_t_holders 4))), ((d_t_holders 5), .inr (2, [.int (t_holders_sort 5), .long (t_holders_tree 5), .int (t_holders_limit 5), .ref (q_t_holders 5), .long (t_holders_above 5), .int (t_holders_size 5)])), ((q_t_holders 5), .inl (cI, 20, .inl (a_t_holders 5))), (h_t_desk, .inr (1, [.int t_desk_genus, .int t_desk_size, .ref h_t_desk_powers, .int t_desk_limit, .long t_desk_tree]))] sz) := by
  refine Met.ofW (cc := cX8_judge) (maxL := 5) (ret := (some .int)) (by decide) rfl ?_
  intro p e s m args below meth c s₁ B hml hv
  obtain ⟨rfl, hsz, hP, hK, hD0⟩ := hv
  have hx := B.exec
  have hb := B.bytes
  have hr := B.returns
  have hts := atoms_spec (ws := wsX8_judge) B.pre
  have hta : ∀ w ∈ wA, w.before ([.ref h_t, .int p0] : List Value).toArray s = true := hta_of hts
  have hown : s.vm.findClass RX8 = some m.cls := findClass_of_methodNamed B.named
  have hlocks := B.notSynchronized
  subst hsz
  have hD := hD0.self (sz := s.heap.size)
  generalize hAe : va_A [(h_t, .inr (7, [.ref h_t_desk, .ref h_t_imageDesk, .ref h_t_deeds, .ref h_t_numbers, .ref h_t_tape, .ref h_t_reader, .ref h_t_speller, .ref h_t_holders, .int t_imageKept])), (h_t_holders, .inl (cH, 6, .inr (.inr (.inr (.inr (fun i => some (d_t_holders i))))))), ((d_t_holders 0), .inr (2, [.int (t_holders_sort 0), .long (t_holders_tree 0), .int (t_holders_limit 0), .ref (q_t_holders 0), .long (t_holders_above 0), .int (t_holders_size 0)])), ((q_t_holders 0), .inl (cI, 20, .inl (a_t_holders 0))), ((d_t_holders 1), .inr (2, [.int (t_holders_sort 1), .long (t_holders_tree 1), .int (t_holders_limit 1), .ref (q_t_holders 1), .long (t_holders_above 1), .int (t_holders_size 1)])), ((q_t_holders 1), .inl (cI, 20, .inl (a_t_holders 1))), ((d_t_holders 2), .inr (2, [.int (t_holders_sort 2), .long (t_holders_tree 2), .int (t_holders_limit 2), .ref (q_t_holders 2), .long (t_holders_above 2), .int (t_holders_size 2)])), ((q_t_holders 2), .inl (cI, 20, .inl (a_t_holders 2))), ((d_t_holders 3), .inr (2, [.int (t_holders_sort 3), .long (t_holders_tree 3), .int (t_holders_limit 3), .ref (q_t_holders 3), .long (t_holders_above 3), .int (t_holders_size 3)])), ((q_t_holders 3), .inl (cI, 20, .inl (a_t_holders 3))), ((d_t_holders 4), .inr (2, [.int (t_holders_sort 4), .long (t_holders_tree 4), .int (t_holders_limit 4), .ref (q_t_holders 4), .long (t_holders_above 4), .int (t_holders_size 4)])), ((q_t_holders 4), .inl (cI, 20, .inl (a_t_holders 4))), ((d_t_holders 5), .inr (2, [.int (t_holders_sort 5), .long (t_holders_tree 5), .int (t_holders_limit 5), .ref (q_t_holders 5), .long (t_holders_above 5), .int (t_holders_size 5)])), ((q_t_holders 5), .inl (cI, 20, .inl (a_t_holders 5))), (h_t_desk, .inr (1, [.int t_desk_genus, .int t_desk_size, .ref h_t_desk_powers, .int t_desk_limit, .long t_desk_tree]))] s.heap.size = A at hD ⊢
  have hA : ∀ q : Nat, s.heap.size ≤ q → A q := fun q h => by rw [← hAe]; exact Or.inr h
  have hS : va_S A s.heap s.heap [] := va_S.rf
  have hl := lv_entry ([.ref h_t, .int p0]) (n := 5) (Nat.le_of_ble_eq_true rfl)
  rw [lg_entry_eq]
  generalize (lg_sl ([.ref h_t, .int p0]) ++ List.replicate (5 - (lg_sl ([.ref h_t, .int p0])).length) Slot.unset).toArray = ls at hl ⊢
  have hl : lv_has ls 5 [(0, .ref h_t), (1, .int p0)] := hl
  have hinX1 : ∀ w ∈ wsX10, w ∈ wsX8_judge := hin_of in_X1
  have hinX8 : ∀ w ∈ wsX80, w ∈ wsX8_judge := hin_of in_X8
  have h := hF
  unfold F_X8_judge at h
  refine lv_aload_n hx hb dX8_judge_0 rfl (lv_at hl 0 rfl) ?_
  refine lv_iload_n hx hb dX8_judge_1 rfl (lv_at hl 1 rfl) ?_
  obtain ⟨x1, hx1, h⟩ := bd_e h
  try dsimp only at h
  have hc1 := k_lt_X8_holderAt hx1
  by_cases hd1 : x1 = 6
  · subst hd1
    refine k_VqU (n := 1) (As := [.int p0]) (rest := []) hx hb hml hown hts (c_X8_holderAt l G cI cJ cD cH s.heap.size h_t h_t_holders h_t_desk h_t_imageDesk h_t_deeds h_t_numbers h_t_tape h_t_reader h_t_speller d_t_holders q_t_holders a_t_holders t_holders_sort t_holders_tree t_holders_limit t_holders_above t_holders_size t_imageKept p0 6 hx1) gX8_judge_X8_holderAt rfl rfl rfl (by decide +kernel) ⟨by first | exact Nat.le_of_ble_eq_true rfl | (simp only [headSpec]; omega), by first | exact Nat.le_of_ble_eq_true rfl | (simp only [headSpec]; omega)⟩ hK hP hD hS hA [0, 1, 2, 3, 4, 5, 6, 7, 8, 9, 10, 11, 12, 13] (by decide) rfl (ci := 7) rfl rfl rfl rfl rfl hl.1 (Nat.le_of_ble_eq_true rfl) dX8_judge_2 ⟨Nat.zero_le _, Nat.zero_le _⟩ (fun hp1 H locs hP hS => ?_)
    refine W.eq (g2 := F0 m 5 ls [.null]) rfl ?_
    have h := it_p h rfl
    refine lv_astore_nN (lv' := [(2, .null), (0, .ref h_t), (1, .int p0)]) hx hb dX8_judge_5 rfl hl (by decide) rfl (fun ls hl => ?_)
    refine lv_aload_nN hx hb dX8_judge_6 rfl (lv_at hl 0 rfl) ?_
    refine lv_iconst (v := (3 : Int32)) hx hb dX8_judge_7 (by decide) ?_
    obtain ⟨x6, hx6, h⟩ := bd_e h
    try dsimp only at h
    refine k_SiU (n := 2) (As := [.null, .int (3 : Int32)]) (rest := []) hx hb hml hown hts (c_X8_refusalOfN l G cI cJ cD cH H.size (3 : Int32) x6 hx6) gX8_judge_X8_refusalOf rfl rfl rfl (by decide +kernel) ⟨by first | exact Nat.le_of_ble_eq_true rfl | (simp only [headSpec]; omega), by first | exact Nat.le_of_ble_eq_true rfl | (simp only [headSpec]; omega)⟩ hK hP hD hS hA [] (by decide) rfl rfl rfl hl.1 (Nat.le_of_ble_eq_true rfl) dX8_judge_8 ⟨Nat.zero_le _, Nat.zero_le _⟩ (fun hp6 H locs hP hS => ?_)
    refine lv_istore_n (lv' := [(3, .int x6), (2, .null), (0, .ref h_t), (1, .int p0)]) hx hb dX8_judge_11 rfl hl (by decide) rfl (fun ls hl => ?_)
    refine lv_aload_nN hx hb dX8_judge_12 rfl (lv_at hl 1 rfl) ?_
    refine lv_ifnullN (tgt := 20) hx hb dX8_judge_13 (by decide) ?_
    refine lv_iload_n hx hb dX8_judge_20 rfl (lv_at hl 0 rfl) ?_
    have h9 := Option.some.inj h
    have e9 : x6 = r0 := congrArg (fun z9 => z9) h9
    subst e9
    exact k_iret hx hb hr hlocks hP hS rfl dX8_judge_21
  have hb1 : x1 < 6 := by omega
  refine k_VqU (n := 1) (As := [.int p0]) (rest := []) hx hb hml hown hts (c_X8_holderAt l G cI cJ cD cH s.heap.size h_t h_t_holders h_t_desk h_t_imageDesk h_t_deeds h_t_numbers h_t_tape h_t_reader h_t_speller d_t_holders q_t_holders a_t_holders t_holders_sort t_holders_tree t_holders_limit t_holders_above t_holders_size t_imageKept p0 x1 hx1) gX8_judge_X8_holderAt rfl rfl rfl (by decide +kernel) ⟨by first | exact Nat.le_of_ble_eq_true rfl | (simp only [headSpec]; omega), by first | exact Nat.le_of_ble_eq_true rfl | (simp only [headSpec]; omega)⟩ hK hP hD hS hA [0, 1, 2, 3, 4, 5, 6, 7, 8, 9, 10, 11, 12, 13] (by decide) rfl (ci := 7) rfl rfl rfl rfl rfl hl.1 (Nat.le_of_ble_eq_true rfl) dX8_judge_2 ⟨Nat.zero_le _, Nat.zero_le _⟩ (fun hp1 H locs hP hS => ?_)
  refine W.eq (g2 := F0 m 5 ls [.ref (d_t_holders x1)]) (by rw [if_neg hd1]; rfl) ?_
  have h := it_n h hd1
  refine lv_astore_n (lv' := [(2, .ref (d_t_holders x1)), (0, .ref h_t), (1, .int p0)]) hx hb dX8_judge_5 rfl hl (by decide) rfl (fun ls hl => ?_)
  refine lv_aload_n hx hb dX8_judge_6 rfl (lv_at hl 0 rfl) ?_
  refine lv_iconst (v := (3 : Int32)) hx hb dX8_judge_7 (by decide) ?_
  obtain ⟨x2, hx2, h⟩ := bd_e h
  try dsimp only at h
  refine k_SiU (n := 2) (As := [.ref (d_t_holders x1), .int (3 : Int32)]) (rest := []) hx hb hml hown hts (c_X8_refusalOf l G cI cJ cD cH H.size (d_t_holders x1) (q_t_holders x1) (t_holders_sort x1) (t_holders_tree x1) (t_holders_limit x1) (t_holders_above x1) (t_holders_size x1) (3 : Int32) x2 hx2) gX8_judge_X8_refusalOf rfl rfl rfl (by decide +kernel) ⟨by first | exact Nat.le_of_ble_eq_true rfl | (simp only [headSpec]; omega), by first | exact Nat.le_of_ble_eq_true rfl | (simp only [headSpec]; omega)⟩ hK hP hD hS hA [(2 + 2 * x1)] (by obtain rfl | rfl | rfl | rfl | rfl | rfl := k_lt6 hb1 <;> decide) (by obtain rfl | rfl | rfl | rfl | rfl | rfl := k_lt6 hb1 <;> rfl) rfl rfl hl.1 (Nat.le_of_ble_eq_true rfl) dX8_judge_8 ⟨Nat.zero_le _, Nat.zero_le _⟩ (fun hp2 H locs hP hS => ?_)
  refine lv_istore_n (lv' := [(3, .int x2), (2, .ref (d_t_holders x1)), (0, .ref h_t), (1, .int p0)]) hx hb dX8_judge_11 rfl hl (by decide) rfl (fun ls hl => ?_)
  refine lv_aload_n hx hb dX8_judge_12 rfl (lv_at hl 1 rfl) ?_
  refine lv_ifnull hx hb dX8_judge_13 ?_
  refine lv_iload_n hx hb dX8_judge_16 rfl (lv_at hl 0 rfl) ?_
  refine lv_if_eq (tgt := 22) hx hb dX8_judge_17 (by decide) (fun c3 => ?_) (fun c3 => ?_)
  rotate_left
  · have h := it_n h c3
    refine lv_iload_n hx hb dX8_judge_20 rfl (lv_at hl 0 rfl) ?_
    have h9 := Option.some.inj h
    have e9 : x2 = r0 := congrArg (fun z9 => z9) h9
    subst e9
    exact k_iret hx hb hr hlocks hP hS rfl dX8_judge_21
  have h := it_p h c3
  refine lv_aload_n hx hb dX8_judge_22 rfl (lv_at hl 1 rfl) ?_
  refine lv_aload_n hx hb dX8_judge_23 rfl (lv_at hl 2 rfl) ?_
  refine va_get (D := G) (ci := 7) (v := .ref h_t_desk) (C := RX8) (T := TX8) (N := 9) hx hb hts hinX8 hown hK hP 0 rfl rfl 0 (by decide) (hta _ mw_354) (fun _ h9 => h9) rfl dX8_judge_24 ?_
  refine va_get (D := G) (ci := 1) (v := .long t_desk_tree) (C := RX1) (T := TX1) (N := 5) hx hb hts hinX1 hown hK hP 14 rfl rfl 4 (by decide) (hta _ mw_477) (fun _ h9 => h9) rfl dX8_judge_27 ?_
  obtain ⟨x4, hx4, h⟩ := bd_e h
  try dsimp only at h
  refine k_ViU (n := 1) (As := [.long t_desk_tree]) (rest := []) hx hb hml hown hts (c_X2_firstUnlike l G cI cJ cD cH H.size (d_t_holders x1) (q_t_holders x1) (t_holders_sort x1) (t_holders_tree x1) (t_holders_limit x1) (t_holders_above x1) (t_holders_size x1) (a_t_holders x1) t_desk_tree x4 hx4) gX8_judge_X2_firstUnlike rfl rfl rfl (by decide +kernel) ⟨by first | exact Nat.le_of_ble_eq_true rfl | (simp only [headSpec]; omega), by first | exact Nat.le_of_ble_eq_true rfl | (simp only [headSpec]; omega)⟩ hK hP hD hS hA [(2 + 2 * x1), (3 + 2 * x1)] (by obtain rfl | rfl | rfl | rfl | rfl | rfl := k_lt6 hb1 <;> decide) (by obtain rfl | rfl | rfl | rfl | rfl | rfl := k_lt6 hb1 <;> rfl) (ci := 2) rfl rfl rfl rfl rfl hl.1 (Nat.le_of_ble_eq_true rfl) dX8_judge_30 ⟨Nat.zero_le _, Nat.zero_le _⟩ (fun hp4 H locs hP hS => ?_)
  refine lv_istore (lv' := [(4, .int x4), (3, .int x2), (2, .ref (d_t_holders x1)), (0, .ref h_t), (1, .int p0)]) hx hb dX8_judge_33 hl (by decide) rfl (fun ls hl => ?_)
  refine lv_iload hx hb dX8_judge_35 (lv_at hl 0 rfl) ?_
  refine lv_iconst (v := (-1 : Int32)) hx hb dX8_judge_37 (by decide) ?_
  refine lv_icmp_ne (tgt := 46) hx hb dX8_judge_38 (by decide) (fun c5 => ?_) (fun c5 => ?_)
  · have h := it_n h c5
    refine lv_iload hx hb dX8_judge_46 (lv_at hl 0 rfl) ?_
    have h9 := Option.some.inj h
    have e9 : x4 = r0 := congrArg (fun z9 => z9) h9
    subst e9
    exact k_iret hx hb hr hlocks hP hS rfl dX8_judge_48
  have h := it_p h c5
  refine lv_bipush (v := (-2 : Int32)) hx hb dX8_judge_41 (by decide) ?_
  refine lv_goto (tgt := 48) hx hb dX8_judge_43 (by decide) ?_
  have h9 := Option.some.inj h
  have e9 : (-2 : Int32) = r0 := congrArg (fun z9 => z9) h9
  subst e9
  exact k_iret hx hb hr hlocks hP hS rfl dX8_judge_48

/-! X8_image -/
set_option maxHeartbeats 4000000 in
set_option maxRecDepth 100000 in
theorem c_X8_image (l : Launch) (G : va_G) (cI cJ cD cH : ClassId) (sz : Nat) (h_t : Nat) (h_t_imageDesk : Nat) (h_t_desk : Nat) (h_t_imageDesk_powers : Nat) (h_t_desk_powers : Nat) (h_t_deeds : Nat) (h_t_numbers : Nat) (h_t_tape : Nat) (h_t_reader : Nat) (h_t_speller : Nat) (h_t_holders : Nat) (t_imageKept : Int32) (t_imageDesk_genus : Int32) (t_imageDesk_size : Int32) (t_imageDesk_limit : Int32) (t_imageDesk_tree : Int64) (t_desk_genus : Int32) (t_desk_size : Int32) (t_desk_limit : Int32) (t_desk_tree : Int64) (a_t_imageDesk_powers : Nat → Int32) (a_t_desk_powers : Nat → Int32) (r0 : Int32) (w0 : Nat → Int32) (w1 : Int32) (w2 : Int32) (w3 : Int32) (w4 : Int32) (w5 : Int64) (hF : F_X8_image t_desk_genus t_desk_size t_desk_limit t_desk_tree a_t_imageDesk_powers a_t_desk_powers = some (r0, w0, w1, w2, w3, w4, w5)) : Met l yX8_image wsX8_image ({ frames := 1, cells := 0, slots := 0, locals := 22 }) (k_pre G (k_T cI cJ cD cH) [(h_t, .inr (7, [.ref h_t_desk, .ref h_t_imageDesk, .ref h_t_deeds, .ref h_t_numbers, .ref h_t_tape, .ref h_t_reader, .ref h_t_speller, .ref h_t_holders, .int t_imageKept])), (h_t_imageDesk, .inr (1, [.int t_imageDesk_genus, .int t_imageDesk_size, .ref h_t_imageDesk_powers, .int t_imageDesk_limit, .long t_imageDesk_tree])), (h_t_desk, .inr (1, [.int t_desk_genus, .int t_desk_size, .ref h_t_desk_powers, .int t_desk_limit, .long t_desk_tree])), (h_t_imageDesk_powers, .inl (cI, 8, .inl a_t_imageDesk_powers)), (h_t_desk_powers, .inl (cI, 8, .inl a_t_desk_powers))] sz [.ref h_t]) (va_Qi (fun r (_ : Unit) => r = r0 ∧ True) (fun _ t => va_P G vwCl [(h_t, .inr (7, [.ref h_t_desk, .ref h_t_imageDesk, .ref h_t_deeds, .ref h_t_numbers, .ref h_t_tape, .ref h_t_reader, .ref h_t_speller, .ref h_t_holders, .int w1])), (h_t_imageDesk, .inr (1, [.int w2, .int w3, .ref h_t_imageDesk_powers, .int w4, .long w5])), (h_t_desk, .inr (1, [.int t_desk_genus, .int t_desk_size, .ref h_t_desk_powers, .int t_desk_limit, .long t_desk_tree])), (h_t_imageDesk_powers, .inl (cI, 8, .inl w0)), (h_t_desk_powers, .inl (cI, 8, .inl a_t_desk_powers))] t.heap) (va_A [(h_t, .inr (7, [.ref h_t_desk, .ref h_t_imageDesk, .ref h_t_deeds, .ref h_t_numbers, .ref h_t_tape, .ref h_t_reader, .ref h_t_speller, .ref h_t_holders, .int t_imageKept])), (h_t_imageDesk, .inr (1, [.int t_imageDesk_genus, .int t_imageDesk_size, .ref h_t_imageDesk_powers, .int t_imageDesk_limit, .long t_imageDesk_tree])), (h_t_desk, .inr (1, [.int t_desk_genus, .int t_desk_size, .ref h_t_desk_powers, .int t_desk_limit, .long t_desk_tree])), (h_t_imageDesk_powers, .inl (cI, 8, .inl a_t_imageDesk_powers)), (h_t_desk_powers, .inl (cI, 8, .inl a_t_desk_powers))] sz)) 0 0 (va_A [(h_t, .inr (7, [.ref h_t_desk, .ref h_t_imageDesk, .ref h_t_deeds, .ref h_t_numbers, .ref h_t_tape, .ref h_t_reader, .ref h_t_speller, .ref h_t_holders, .int t_imageKept])), (h_t_imageDesk, .inr (1, [.int t_imageDesk_genus, .int t_imageDesk_size, .ref h_t_imageDesk_powers, .int t_imageDesk_limit, .long t_imageDesk_tree])), (h_t_desk, .inr (1, [.int t_desk_genus, .int t_desk_size, .ref h_t_desk_powers, .int t_desk_limit, .long t_desk_tree])), (h_t_imageDesk_powers, .inl (cI, 8, .inl a_t_imageDesk_powers)), (h_t_desk_powers, .inl (cI, 8, .inl a_t_desk_powers))] sz) := by
  refine Met.ofW (cc := cX8_image) (maxL := 1) (ret := (some .int)) (by decide) rfl ?_
  intro p e s m args below meth c s₁ B hml hv
  obtain ⟨rfl, hsz, hP, hK, hD0⟩ := hv
  have hx := B.exec
  have hb := B.bytes
  have hr := B.returns
  have hts := atoms_spec (ws := wsX8_image) B.pre
  have hta : ∀ w ∈ wA, w.before ([.ref h_t] : List Value).toArray s = true := hta_of hts
  have hown : s.vm.findClass RX8 = some m.cls := findClass_of_methodNamed B.named
  have hlocks := B.notSynchronized
  subst hsz
  have hD := hD0.self (sz := s.heap.size)
  generalize hAe : va_A [(h_t, .inr (7, [.ref h_t_desk, .ref h_t_imageDesk, .ref h_t_deeds, .ref h_t_numbers, .ref h_t_tape, .ref h_t_reader, .ref h_t_speller, .ref h_t_holders, .int t_imageKept])), (h_t_imageDesk, .inr (1, [.int t_imageDesk_genus, .int t_imageDesk_size, .ref h_t_imageDesk_powers, .int t_imageDesk_limit, .long t_imageDesk_tree])), (h_t_desk, .inr (1, [.int t_desk_genus, .int t_desk_size, .ref h_t_desk_powers, .int t_desk_limit, .long t_desk_tree])), (h_t_imageDesk_powers, .inl (cI, 8, .inl a_t_imageDesk_powers)), (h_t_desk_powers, .inl (cI, 8, .inl a_t_desk_powers))] s.heap.size = A at hD ⊢
  have hA : ∀ q : Nat, s.heap.size ≤ q → A q := fun q h => by rw [← hAe]; exact Or.inr h
  have hS : va_S A s.heap s.heap [] := va_S.rf
  have hl := lv_entry ([.ref h_t]) (n := 1) (Nat.le_of_ble_eq_true rfl)
  rw [lg_entry_eq]
  generalize (lg_sl ([.ref h_t]) ++ List.replicate (1 - (lg_sl ([.ref h_t])).length) Slot.unset).toArray = ls at hl ⊢
  have hl : lv_has ls 1 [(0, .ref h_t)] := hl
  have hinX1 : ∀ w ∈ wsX10, w ∈ wsX8_image := hin_of in_X1
  have hinX8 : ∀ w ∈ wsX80, w ∈ wsX8_image := hin_of in_X8
  have h := hF
  unfold F_X8_image at h
  refine lv_aload_n hx hb dX8_image_0 rfl (lv_at hl 0 rfl) ?_
  refine va_get (D := G) (ci := 7) (v := .ref h_t_imageDesk) (C := RX8) (T := TX8) (N := 9) hx hb hts hinX8 hown hK hP 0 rfl rfl 1 (by decide) (hta _ mw_355) (fun _ h9 => h9) rfl dX8_image_1 ?_
  refine lv_aload_n hx hb dX8_image_4 rfl (lv_at hl 0 rfl) ?_
  refine va_get (D := G) (ci := 7) (v := .ref h_t_desk) (C := RX8) (T := TX8) (N := 9) hx hb hts hinX8 hown hK hP 0 rfl rfl 0 (by decide) (hta _ mw_354) (fun _ h9 => h9) rfl dX8_image_5 ?_
  obtain ⟨x1, hx1, h⟩ := bd_e h
  try dsimp only at h
  refine k_Vv (n := 1) (As := [.ref h_t_desk]) (rest := []) hx hb hml hown hts (c_X1_copyFrom l G cI cJ cD cH s.heap.size h_t_imageDesk h_t_desk h_t_imageDesk_powers h_t_desk_powers t_imageDesk_genus t_imageDesk_size t_imageDesk_limit t_imageDesk_tree t_desk_genus t_desk_size t_desk_limit t_desk_tree a_t_imageDesk_powers a_t_desk_powers (x1.1) (x1.2.1) (x1.2.2.1) (x1.2.2.2.1) (x1.2.2.2.2) hx1) gX8_image_X1_copyFrom rfl rfl rfl (by decide +kernel) ⟨by first | exact Nat.le_of_ble_eq_true rfl | (simp only [headSpec]; omega), by first | exact Nat.le_of_ble_eq_true rfl | (simp only [headSpec]; omega)⟩ hK hP hD hS hA [1, 2, 3, 4] (by decide) rfl rfl (ci := 1) rfl rfl rfl rfl rfl hl.1 (Nat.le_of_ble_eq_true rfl) dX8_image_8 ⟨Nat.zero_le _, Nat.zero_le _⟩ [(h_t, .inr (7, [.ref h_t_desk, .ref h_t_imageDesk, .ref h_t_deeds, .ref h_t_numbers, .ref h_t_tape, .ref h_t_reader, .ref h_t_speller, .ref h_t_holders, .int t_imageKept])), (h_t_imageDesk, .inr (1, [.int (x1.2.1), .int (x1.2.2.1), .ref h_t_imageDesk_powers, .int (x1.2.2.2.1), .long (x1.2.2.2.2)])), (h_t_desk, .inr (1, [.int t_desk_genus, .int t_desk_size, .ref h_t_desk_powers, .int t_desk_limit, .long t_desk_tree])), (h_t_imageDesk_powers, .inl (cI, 8, .inl (x1.1))), (h_t_desk_powers, .inl (cI, 8, .inl a_t_desk_powers))] [0] 5 rfl rfl rfl (by decide +kernel) rfl (fun hp1 H locs hP hD hS => ?_)
  refine lv_aload_n hx hb dX8_image_11 rfl (lv_at hl 0 rfl) ?_
  refine lv_iconst (v := (1 : Int32)) hx hb dX8_image_12 (by decide) ?_
  refine va_put (D := G) (ci := 7) (v := .int (1 : Int32)) (ty := .boolean) (C := RX8) (T := TX8) (N := 9) hx hb hts hinX8 tyX8 tyX8_ok nmX8 hown hK hP hD hS 0 rfl rfl 8 (by decide) (hta _ mw_596) (fun _ h9 => h9) rfl (by decide +kernel) rfl rfl (Nat.le_of_ble_eq_true rfl) dX8_image_13 (fun H locs hP hD hS => ?_)
  have hP : va_P G vwCl [(h_t, .inr (7, [.ref h_t_desk, .ref h_t_imageDesk, .ref h_t_deeds, .ref h_t_numbers, .ref h_t_tape, .ref h_t_reader, .ref h_t_speller, .ref h_t_holders, .int (1 : Int32)])), (h_t_imageDesk, .inr (1, [.int (x1.2.1), .int (x1.2.2.1), .ref h_t_imageDesk_powers, .int (x1.2.2.2.1), .long (x1.2.2.2.2)])), (h_t_desk, .inr (1, [.int t_desk_genus, .int t_desk_size, .ref h_t_desk_powers, .int t_desk_limit, .long t_desk_tree])), (h_t_imageDesk_powers, .inl (cI, 8, .inl (x1.1))), (h_t_desk_powers, .inl (cI, 8, .inl a_t_desk_powers))] H := hP
  have hD : va_D A [(h_t, .inr (7, [.ref h_t_desk, .ref h_t_imageDesk, .ref h_t_deeds, .ref h_t_numbers, .ref h_t_tape, .ref h_t_reader, .ref h_t_speller, .ref h_t_holders, .int (1 : Int32)])), (h_t_imageDesk, .inr (1, [.int (x1.2.1), .int (x1.2.2.1), .ref h_t_imageDesk_powers, .int (x1.2.2.2.1), .long (x1.2.2.2.2)])), (h_t_desk, .inr (1, [.int t_desk_genus, .int t_desk_size, .ref h_t_desk_powers, .int t_desk_limit, .long t_desk_tree])), (h_t_imageDesk_powers, .inl (cI, 8, .inl (x1.1))), (h_t_desk_powers, .inl (cI, 8, .inl a_t_desk_powers))] := hD
  refine lv_aload_n hx hb dX8_image_16 rfl (lv_at hl 0 rfl) ?_
  refine va_get (D := G) (ci := 7) (v := .ref h_t_desk) (C := RX8) (T := TX8) (N := 9) hx hb hts hinX8 hown hK hP 0 rfl rfl 0 (by decide) (hta _ mw_354) (fun _ h9 => h9) rfl dX8_image_17 ?_
  refine va_get (D := G) (ci := 1) (v := .int t_desk_size) (C := RX1) (T := TX1) (N := 5) hx hb hts hinX1 hown hK hP 2 rfl rfl 1 (by decide) (hta _ mw_390) (fun _ h9 => h9) rfl dX8_image_20 ?_
  have h9 := Option.some.inj h
  have e9 : t_desk_size = r0 := congrArg (fun z9 => z9.1) h9
  subst e9
  have e9 : (x1.1) = w0 := congrArg (fun z9 => z9.2.1) h9
  subst e9
  have e9 : (1 : Int32) = w1 := congrArg (fun z9 => z9.2.2.1) h9
  subst e9
  have e9 : (x1.2.1) = w2 := congrArg (fun z9 => z9.2.2.2.1) h9
  subst e9
  have e9 : (x1.2.2.1) = w3 := congrArg (fun z9 => z9.2.2.2.2.1) h9
  subst e9
  have e9 : (x1.2.2.2.1) = w4 := congrArg (fun z9 => z9.2.2.2.2.2.1) h9
  subst e9
  have e9 : (x1.2.2.2.2) = w5 := congrArg (fun z9 => z9.2.2.2.2.2.2) h9
  subst e9
  exact k_iret hx hb hr hlocks hP hS rfl dX8_image_23

/-! X8_restore -/
set_option maxHeartbeats 40000000 in
set_option maxRecDepth 100000 in
theorem c_X8_restore (l : Launch) (G : va_G) (cI cJ cD cH : ClassId) (sz : Nat) (h_t : Nat) (h_t_desk : Nat) (h_t_imageDesk : Nat) (h_t_desk_powers : Nat) (h_t_imageDesk_powers : Nat) (h_t_deeds : Nat) (h_t_deeds_desks : Nat) (h_t_numbers : Nat) (h_t_tape : Nat) (h_t_reader : Nat) (h_t_speller : Nat) (h_t_holders : Nat) (d_t_deeds_desks : Nat → Nat) (q_t_deeds_desks : Nat → Nat) (a_t_deeds_desks : Nat → Nat → Int32) (t_deeds_desks_genus : Nat → Int32) (t_deeds_desks_size : Nat → Int32) (t_deeds_desks_limit : Nat → Int32) (t_deeds_desks_tree : Nat → Int64) (t_imageKept : Int32) (t_desk_genus : Int32) (t_desk_size : Int32) (t_desk_limit : Int32) (t_desk_tree : Int64) (t_imageDesk_genus : Int32) (t_imageDesk_size : Int32) (t_imageDesk_limit : Int32) (t_imageDesk_tree : Int64) (a_t_desk_powers : Nat → Int32) (a_t_imageDesk_powers : Nat → Int32) (t_deeds_now : Int32) (t_deeds_last : Int32) (r0 : Int32) (w0 : Nat → Int32) (w1 : Int32) (w2 : Int32) (w3 : Int32) (w4 : Int64) (w5 : Int32) (w6 : Int32) (w7 : Nat → Nat → Int32) (w8 : Nat → Int32) (w9 : Nat → Int32) (w10 : Nat → Int32) (w11 : Nat → Int64) (hF : F_X8_restore a_t_deeds_desks t_deeds_desks_genus t_deeds_desks_size t_deeds_desks_limit t_deeds_desks_tree t_imageKept t_desk_genus t_desk_size t_desk_limit t_desk_tree t_imageDesk_genus t_imageDesk_size t_imageDesk_limit t_imageDesk_tree a_t_desk_powers a_t_imageDesk_powers t_deeds_now t_deeds_last = some (r0, w0, w1, w2, w3, w4, w5, w6, w7, w8, w9, w10, w11)) : Met l yX8_restore wsX8_restore ({ frames := 2, cells := 0, slots := 0, locals := 43 }) (k_pre G (k_T cI cJ cD cH) [(h_t, .inr (7, [.ref h_t_desk, .ref h_t_imageDesk, .ref h_t_deeds, .ref h_t_numbers, .ref h_t_tape, .ref h_t_reader, .ref h_t_speller, .ref h_t_holders, .int t_imageKept])), (h_t_desk, .inr (1, [.int t_desk_genus, .int t_desk_size, .ref h_t_desk_powers, .int t_desk_limit, .long t_desk_tree])), (h_t_imageDesk, .inr (1, [.int t_imageDesk_genus, .int t_imageDesk_size, .ref h_t_imageDesk_powers, .int t_imageDesk_limit, .long t_imageDesk_tree])), (h_t_desk_powers, .inl (cI, 8, .inl a_t_desk_powers)), (h_t_imageDesk_powers, .inl (cI, 8, .inl a_t_imageDesk_powers)), (h_t_deeds, .inr (0, [.ref h_t_deeds_desks, .int t_deeds_now, .int t_deeds_last])), (h_t_deeds_desks, .inl (cD, 9, .inr (.inr (.inr (.inr (fun i => some (d_t_deeds_desks i))))))), ((d_t_deeds_desks 0), .inr (1, [.int (t_deeds_desks_genus 0), .int (t_deeds_desks_size 0), .ref (q_t_deeds_desks 0), .int (t_deeds_desks_limit 0), .long (t_deeds_desks_tree 0)])), ((q_t_deeds_desks 0), .inl (cI, 8, .inl (a_t_deeds_desks 0))), ((d_t_deeds_desks 1), .inr (1, [.int (t_deeds_desks_genus 1), .int (t_deeds_desks_size 1), .ref (q_t_deeds_desks 1), .int (t_deeds_desks_limit 1), .long (t_deeds_desks_tree 1)])), ((q_t_deeds_desks 1), .inl (cI, 8, .inl (a_t_deeds_desks 1))), ((d_t_deeds_desks 2), .inr (1, [.int (t_deeds_desks_genus 2), .int (t_deeds_desks_size 2), .ref (q_t_deeds_desks 2), .int (t_deeds_desks_limit 2), .long (t_deeds_desks_tree 2)])), ((q_t_deeds_desks 2), .inl (cI, 8, .inl (a_t_deeds_desks 2))), ((d_t_deeds_desks 3), .inr (1, [.int (t_deeds_desks_genus 3), .int (t_deeds_desks_size 3), .ref (q_t_deeds_desks 3), .int (t_deeds_desks_limit 3), .long (t_deeds_desks_tree 3)])), ((q_t_deeds_desks 3), .inl (cI, 8, .inl (a_t_deeds_desks 3))), ((d_t_deeds_desks 4), .inr (1, [.int (t_deeds_desks_genus 4), .int (t_deeds_desks_size 4), .ref (q_t_deeds_desks 4), .int (t_deeds_desks_limit 4), .long (t_deeds_desks_tree 4)])), ((q_t_deeds_desks 4), .inl (cI, 8, .inl (a_t_deeds_desks 4))), ((d_t_deeds_desks 5), .inr (1, [.int (t_deeds_desks_genus 5), .int (t_deeds_desks_size 5), .ref (q_t_deeds_desks 5), .int (t_deeds_desks_limit 5), .long (t_deeds_desks_tree 5)])), ((q_t_deeds_desks 5), .inl (cI, 8, .inl (a_t_deeds_desks 5))), ((d_t_deeds_desks 6), .inr (1, [.int (t_deeds_desks_genus 6), .int (t_deeds_desks_size 6), .ref (q_t_deeds_desks 6), .int (t_deeds_desks_limit 6), .long (t_deeds_desks_tree 6)])), ((q_t_deeds_desks 6), .inl (cI, 8, .inl (a_t_deeds_desks 6))), ((d_t_deeds_desks 7), .inr (1, [.int (t_deeds_desks_genus 7), .int (t_deeds_desks_size 7), .ref (q_t_deeds_desks 7), .int (t_deeds_desks_limit 7), .long (t_deeds_desks_tree 7)])), ((q_t_deeds_desks 7), .inl (cI, 8, .inl (a_t_deeds_desks 7))), ((d_t_deeds_desks 8), .inr (1, [.int (t_deeds_desks_genus 8), .int (t_deeds_desks_size 8), .ref (q_t_deeds_desks 8), .int (t_deeds_desks_limit 8), .long (t_deeds_desks_tree 8)])), ((q_t_deeds_desks 8), .inl (cI, 8, .inl (a_t_deeds_desks 8)))] sz [.ref h_t]) (va_Qi (fun r (_ : Unit) => r = r0 ∧ True) (fun _ t => va_P G vwCl [(h_t, .inr (7, [.ref h_t_desk, .ref h_t_imageDesk, .ref h_t_deeds, .ref h_t_numbers, .ref h_t_tape, .ref h_t_reader, .ref h_t_speller, .ref h_t_holders, .int t_imageKept])), (h_t_desk, .inr (1, [.int w1, .int w2, .ref h_t_desk_powers, .int w3, .long w4])), (h_t_imageDesk, .inr (1, [.int t_imageDesk_genus, .int t_imageDesk_size, .ref h_t_imageDesk_powers, .int t_imageDesk_limit, .long t_imageDesk_tree])), (h_t_desk_powers, .inl (cI, 8, .inl w0)), (h_t_imageDesk_powers, .inl (cI, 8, .inl a_t_imageDesk_powers)), (h_t_deeds, .inr (0, [.ref h_t_deeds_desks, .int w5, .int w6])), (h_t_deeds_desks, .inl (cD, 9, .inr (.inr (.inr (.inr (fun i => some (d_t_deeds_desks i))))))), ((d_t_deeds_desks 0), .inr (1, [.int (w8 0), .int (w10 0), .ref (q_t_deeds_desks 0), .int (w9 0), .long (w11 0)])), ((q_t_deeds_desks 0), .inl (cI, 8, .inl (w7 0))), ((d_t_deeds_desks 1), .inr (1, [.int (w8 1), .int (w10 1), .ref (q_t_deeds_desks 1), .int (w9 1), .long (w11 1)])), ((q_t_deeds_desks 1), .inl (cI, 8, .inl (w7 1))), ((d_t_deeds_desks 2), .inr (1, [.int (w8 2), .int (w10 2), .ref (q_t_deeds_desks 2), .int (w9 2), .long (w11 2)])), ((q_t_deeds_desks 2), .inl (cI, 8, .inl (w7 2))), ((d_t_deeds_desks 3), .inr (1, [.int (w8 3), .int (w10 3), .ref (q_t_deeds_desks 3), .int (w9 3), .long (w11 3)])), ((q_t_deeds_desks 3), .inl (cI, 8, .inl (w7 3))), ((d_t_deeds_desks 4), .inr (1, [.int (w8 4), .int (w10 4), .ref (q_t_deeds_desks 4), .int (w9 4), .long (w11 4)])), ((q_t_deeds_desks 4), .inl (cI, 8, .inl (w7 4))), ((d_t_deeds_desks 5), .inr (1, [.int (w8 5), .int (w10 5), .ref (q_t_deeds_desks 5), .int (w9 5), .long (w11 5)])), ((q_t_deeds_desks 5), .inl (cI, 8, .inl (w7 5))), ((d_t_deeds_desks 6), .inr (1, [.int (w8 6), .int (w10 6), .ref (q_t_deeds_desks 6), .int (w9 6), .long (w11 6)])), ((q_t_deeds_desks 6), .inl (cI, 8, .inl (w7 6))), ((d_t_deeds_desks 7), .inr (1, [.int (w8 7), .int (w10 7), .ref (q_t_deeds_desks 7), .int (w9 7), .long (w11 7)])), ((q_t_deeds_desks 7), .inl (cI, 8, .inl (w7 7))), ((d_t_deeds_desks 8), .inr (1, [.int (w8 8), .int (w10 8), .ref (q_t_deeds_desks 8), .int (w9 8), .long (w11 8)])), ((q_t_deeds_desks 8), .inl (cI, 8, .inl (w7 8)))] t.heap) (va_A [(h_t, .inr (7, [.ref h_t_desk, .ref h_t_imageDesk, .ref h_t_deeds, .ref h_t_numbers, .ref h_t_tape, .ref h_t_reader, .ref h_t_speller, .ref h_t_holders, .int t_imageKept])), (h_t_desk, .inr (1, [.int t_desk_genus, .int t_desk_size, .ref h_t_desk_powers, .int t_desk_limit, .long t_desk_tree])), (h_t_imageDesk, .inr (1, [.int t_imageDesk_genus, .int t_imageDesk_size, .ref h_t_imageDesk_powers, .int t_imageDesk_limit, .long t_imageDesk_tree])), (h_t_desk_powers, .inl (cI, 8, .inl a_t_desk_powers)), (h_t_imageDesk_powers, .inl (cI, 8, .inl a_t_imageDesk_powers)), (h_t_deeds, .inr (0, [.ref h_t_deeds_desks, .int t_deeds_now, .int t_deeds_last])), (h_t_deeds_desks, .inl (cD, 9, .inr (.inr (.inr (.inr (fun i => some (d_t_deeds_desks i))))))), ((d_t_deeds_desks 0), .inr (1, [.int (t_deeds_desks_genus 0), .int (t_deeds_desks_size 0), .ref (q_t_deeds_desks 0), .int (t_deeds_desks_limit 0), .long (t_deeds_desks_tree 0)])), ((q_t_deeds_desks 0), .inl (cI, 8, .inl (a_t_deeds_desks 0))), ((d_t_deeds_desks 1), .inr (1, [.int (t_deeds_desks_genus 1), .int (t_deeds_desks_size 1), .ref (q_t_deeds_desks 1), .int (t_deeds_desks_limit 1), .long (t_deeds_desks_tree 1)])), ((q_t_deeds_desks 1), .inl (cI, 8, .inl (a_t_deeds_desks 1))), ((d_t_deeds_desks 2), .inr (1, [.int (t_deeds_desks_genus 2), .int (t_deeds_desks_size 2), .ref (q_t_deeds_desks 2), .int (t_deeds_desks_limit 2), .long (t_deeds_desks_tree 2)])), ((q_t_deeds_desks 2), .inl (cI, 8, .inl (a_t_deeds_desks 2))), ((d_t_deeds_desks 3), .inr (1, [.int (t_deeds_desks_genus 3), .int (t_deeds_desks_size 3), .ref (q_t_deeds_desks 3), .int (t_deeds_desks_limit 3), .long (t_deeds_desks_tree 3)])), ((q_t_deeds_desks 3), .inl (cI, 8, .inl (a_t_deeds_desks 3))), ((d_t_deeds_desks 4), .inr (1, [.int (t_deeds_desks_genus 4), .int (t_deeds_desks_size 4), .ref (q_t_deeds_desks 4), .int (t_deeds_desks_limit 4), .long (t_deeds_desks_tree 4)])), ((q_t_deeds_desks 4), .inl (cI, 8, .inl (a_t_deeds_desks 4))), ((d_t_deeds_desks 5), .inr (1, [.int (t_deeds_desks_genus 5), .int (t_deeds_desks_size 5), .ref (q_t_deeds_desks 5), .int (t_deeds_desks_limit 5), .long (t_deeds_desks_tree 5)])), ((q_t_deeds_desks 5), .inl (cI, 8, .inl (a_t_deeds_desks 5))), ((d_t_deeds_desks 6), .inr (1, [.int (t_deeds_desks_genus 6), .int (t_deeds_desks_size 6), .ref (q_t_deeds_desks 6), .int (t_deeds_desks_limit 6), .long (t_deeds_desks_tree 6)])), ((q_t_deeds_desks 6), .inl (cI, 8, .inl (a_t_deeds_desks 6))), ((d_t_deeds_desks 7), .inr (1, [.int (t_deeds_desks_genus 7), .int (t_deeds_desks_size 7), .ref (q_t_deeds_desks 7), .int (t_deeds_desks_limit 7), .long (t_deeds_desks_tree 7)])), ((q_t_deeds_desks 7), .inl (cI, 8, .inl (a_t_deeds_desks 7))), ((d_t_deeds_desks 8), .inr (1, [.int (t_deeds_desks_genus 8), .int (t_deeds_desks_size 8), .ref (q_t_deeds_desks 8), .int (t_deeds_desks_limit 8), .long (t_deeds_desks_tree 8)])), ((q_t_deeds_desks 8), .inl (cI, 8, .inl (a_t_deeds_desks 8)))] sz)) 0 0 (va_A [(h_t, .inr (7, [.ref h_t_desk, .ref h_t_imageDesk, .ref h_t_deeds, .ref h_t_numbers, .ref h_t_tape, .ref h_t_reader, .ref h_t_speller, .ref h_t_holders, .int t_imageKept])), (h_t_desk, .inr (1, [.int t_desk_genus, .int t_desk_size, .ref h_t_desk_powers, .int t_desk_limit, .long t_desk_tree])), (h_t_imageDesk, .inr (1, [.int t_imageDesk_genus, .int t_imageDesk_size, .ref h_t_imageDesk_powers, .int t_imageDesk_limit, .long t_imageDesk_tree])), (h_t_desk_powers, .inl (cI, 8, .inl a_t_desk_powers)), (h_t_imageDesk_powers, .inl (cI, 8, .inl a_t_imageDesk_powers)), (h_t_deeds, .inr (0, [.ref h_t_deeds_desks, .int t_deeds_now, .int t_deeds_last])), (h_t_deeds_desks, .inl (cD, 9, .inr (.inr (.inr (.inr (fun i => some (d_t_deeds_desks i))))))), ((d_t_deeds_desks 0), .inr (1, [.int (t_deeds_desks_genus 0), .int (t_deeds_desks_size 0), .ref (q_t_deeds_desks 0), .int (t_deeds_desks_limit 0), .long (t_deeds_desks_tree 0)])), ((q_t_deeds_desks 0), .inl (cI, 8, .inl (a_t_deeds_desks 0))), ((d_t_deeds_desks 1), .inr (1, [.int (t_deeds_desks_genus 1), .int (t_deeds_desks_size 1), .ref (q_t_deeds_desks 1), .int (t_deeds_desks_limit 1), .long (t_deeds_desks_tree 1)])), ((q_t_deeds_desks 1), .inl (cI, 8, .inl (a_t_deeds_desks 1))), ((d_t_deeds_desks 2), .inr (1, [.int (t_deeds_desks_genus 2), .int (t_deeds_desks_size 2), .ref (q_t_deeds_desks 2), .int (t_deeds_desks_limit 2), .long (t_deeds_desks_tree 2)])), ((q_t_deeds_desks 2), .inl (cI, 8, .inl (a_t_deeds_desks 2))), ((d_t_deeds_desks 3), .inr (1, [.int (t_deeds_desks_genus 3), .int (t_deeds_desks_size 3), .ref (q_t_deeds_desks 3), .int (t_deeds_desks_limit 3), .long (t_deeds_desks_tree 3)])), ((q_t_deeds_desks 3), .inl (cI, 8, .inl (a_t_deeds_desks 3))), ((d_t_deeds_desks 4), .inr (1, [.int (t_deeds_desks_genus 4), .int (t_deeds_desks_size 4), .ref (q_t_deeds_desks 4), .int (t_deeds_desks_limit 4), .long (t_deeds_desks_tree 4)])), ((q_t_deeds_desks 4), .inl (cI, 8, .inl (a_t_deeds_desks 4))), ((d_t_deeds_desks 5), .inr (1, [.int (t_deeds_desks_genus 5), .int (t_deeds_desks_size 5), .ref (q_t_deeds_desks 5), .int (t_deeds_desks_limit 5), .long (t_deeds_desks_tree 5)])), ((q_t_deeds_desks 5), .inl (cI, 8, .inl (a_t_deeds_desks 5))), ((d_t_deeds_desks 6), .inr (1, [.int (t_deeds_desks_genus 6), .int (t_deeds_desks_size 6), .ref (q_t_deeds_desks 6), .int (t_deeds_desks_limit 6), .long (t_deeds_desks_tree 6)])), ((q_t_deeds_desks 6), .inl (cI, 8, .inl (a_t_deeds_desks 6))), ((d_t_deeds_desks 7), .inr (1, [.int (t_deeds_desks_genus 7), .int (t_deeds_desks_size 7), .ref (q_t_deeds_desks 7), .int (t_deeds_desks_limit 7), .long (t_deeds_desks_tree 7)])), ((q_t_deeds_desks 7), .inl (cI, 8, .inl (a_t_deeds_desks 7))), ((d_t_deeds_desks 8), .inr (1, [.int (t_deeds_desks_genus 8), .int (t_deeds_desks_size 8), .ref (q_t_deeds_desks 8), .int (t_deeds_desks_limit 8), .long (t_deeds_desks_tree 8)])), ((q_t_deeds_desks 8), .inl (cI, 8, .inl (a_t_deeds_desks 8)))] sz) := by
  refine Met.ofW (cc := cX8_restore) (maxL := 1) (ret := (some .int)) (by decide) rfl ?_
  intro p e s m args below meth c s₁ B hml hv
  obtain ⟨rfl, hsz, hP, hK, hD0⟩ := hv
  have hx := B.exec
  have hb := B.bytes
  have hr := B.returns
  have hts := atoms_spec (ws := wsX8_restore) B.pre
  have hta : ∀ w ∈ wA, w.before ([.ref h_t] : List Value).toArray s = true := hta_of hts
  have hown : s.vm.findClass RX8 = some m.cls := findClass_of_methodNamed B.named
  have hlocks := B.notSynchronized
  subst hsz
  have hD := hD0.self (sz := s.heap.size)
  generalize hAe : va_A [(h_t, .inr (7, [.ref h_t_desk, .ref h_t_imageDesk, .ref h_t_deeds, .ref h_t_numbers, .ref h_t_tape, .ref h_t_reader, .ref h_t_speller, .ref h_t_holders, .int t_imageKept])), (h_t_desk, .inr (1, [.int t_desk_genus, .int t_desk_size, .ref h_t_desk_powers, .int t_desk_limit, .long t_desk_tree])), (h_t_imageDesk, .inr (1, [.int t_imageDesk_genus, .int t_imageDesk_size, .ref h_t_imageDesk_powers, .int t_imageDesk_limit, .long t_imageDesk_tree])), (h_t_desk_powers, .inl (cI, 8, .inl a_t_desk_powers)), (h_t_imageDesk_powers, .inl (cI, 8, .inl a_t_imageDesk_powers)), (h_t_deeds, .inr (0, [.ref h_t_deeds_desks, .int t_deeds_now, .int t_deeds_last])), (h_t_deeds_desks, .inl (cD, 9, .inr (.inr (.inr (.inr (fun i => some (d_t_deeds_desks i))))))), ((d_t_deeds_desks 0), .inr (1, [.int (t_deeds_desks_genus 0), .int (t_deeds_desks_size 0), .ref (q_t_deeds_desks 0), .int (t_deeds_desks_limit 0), .long (t_deeds_desks_tree 0)])), ((q_t_deeds_desks 0), .inl (cI, 8, .inl (a_t_deeds_desks 0))), ((d_t_deeds_desks 1), .inr (1, [.int (t_deeds_desks_genus 1), .int (t_deeds_desks_size 1), .ref (q_t_deeds_desks 1), .int (t_deeds_desks_limit 1), .long (t_deeds_desks_tree 1)])), ((q_t_deeds_desks 1), .inl (cI, 8, .inl (a_t_deeds_desks 1))), ((d_t_deeds_desks 2), .inr (1, [.int (t_deeds_desks_genus 2), .int (t_deeds_desks_size 2), .ref (q_t_deeds_desks 2), .int (t_deeds_desks_limit 2), .long (t_deeds_desks_tree 2)])), ((q_t_deeds_desks 2), .inl (cI, 8, .inl (a_t_deeds_desks 2))), ((d_t_deeds_desks 3), .inr (1, [.int (t_deeds_desks_genus 3), .int (t_deeds_desks_size 3), .ref (q_t_deeds_desks 3), .int (t_deeds_desks_limit 3), .long (t_deeds_desks_tree 3)])), ((q_t_deeds_desks 3), .inl (cI, 8, .inl (a_t_deeds_desks 3))), ((d_t_deeds_desks 4), .inr (1, [.int (t_deeds_desks_genus 4), .int (t_deeds_desks_size 4), .ref (q_t_deeds_desks 4), .int (t_deeds_desks_limit 4), .long (t_deeds_desks_tree 4)])), ((q_t_deeds_desks 4), .inl (cI, 8, .inl (a_t_deeds_desks 4))), ((d_t_deeds_desks 5), .inr (1, [.int (t_deeds_desks_genus 5), .int (t_deeds_desks_size 5), .ref (q_t_deeds_desks 5), .int (t_deeds_desks_limit 5), .long (t_deeds_desks_tree 5)])), ((q_t_deeds_desks 5), .inl (cI, 8, .inl (a_t_deeds_desks 5))), ((d_t_deeds_desks 6), .inr (1, [.int (t_deeds_desks_genus 6), .int (t_deeds_desks_size 6), .ref (q_t_deeds_desks 6), .int (t_deeds_desks_limit 6), .long (t_deeds_desks_tree 6)])), ((q_t_deeds_desks 6), .inl (cI, 8, .inl (a_t_deeds_desks 6))), ((d_t_deeds_desks 7), .inr (1, [.int (t_deeds_desks_genus 7), .int (t_deeds_desks_size 7), .ref (q_t_deeds_desks 7), .int (t_deeds_desks_limit 7), .long (t_deeds_desks_tree 7)])), ((q_t_deeds_desks 7), .inl (cI, 8, .inl (a_t_deeds_desks 7))), ((d_t_deeds_desks 8), .inr (1, [.int (t_deeds_desks_genus 8), .int (t_deeds_desks_size 8), .ref (q_t_deeds_desks 8), .int (t_deeds_desks_limit 8), .long (t_deeds_desks_tree 8)])), ((q_t_deeds_desks 8), .inl (cI, 8, .inl (a_t_deeds_desks 8)))] s.heap.size = A at hD ⊢
  have hA : ∀ q : Nat, s.heap.size ≤ q → A q := fun q h => by rw [← hAe]; exact Or.inr h
  have hS : va_S A s.heap s.heap [] := va_S.rf
  have hl := lv_entry ([.ref h_t]) (n := 1) (Nat.le_of_ble_eq_true rfl)
  rw [lg_entry_eq]
  generalize (lg_sl ([.ref h_t]) ++ List.replicate (1 - (lg_sl ([.ref h_t])).length) Slot.unset).toArray = ls at hl ⊢
  have hl : lv_has ls 1 [(0, .ref h_t)] := hl
  have hinX1 : ∀ w ∈ wsX10, w ∈ wsX8_restore := hin_of in_X1
  have hinX8 : ∀ w ∈ wsX80, w ∈ wsX8_restore := hin_of in_X8
  have h := hF
  unfold F_X8_restore at h
  refine lv_aload_n hx hb dX8_restore_0 rfl (lv_at hl 0 rfl) ?_
  refine va_get (D := G) (ci := 7) (v := .int t_imageKept) (C := RX8) (T := TX8) (N := 9) hx hb hts hinX8 hown hK hP 0 rfl rfl 8 (by decide) (hta _ mw_596) (fun _ h9 => h9) rfl dX8_restore_1 ?_
  refine lv_if_ne (tgt := 10) hx hb dX8_restore_4 (by decide) (fun c1 => ?_) (fun c1 => ?_)
  rotate_left
  · have h := it_p h c1
    refine lv_bipush (v := (-5 : Int32)) hx hb dX8_restore_7 (by decide) ?_
    have h9 := Option.some.inj h
    have e9 : (-5 : Int32) = r0 := congrArg (fun z9 => z9.1) h9
    subst e9
    have e9 : a_t_desk_powers = w0 := congrArg (fun z9 => z9.2.1) h9
    subst e9
    have e9 : t_desk_genus = w1 := congrArg (fun z9 => z9.2.2.1) h9
    subst e9
    have e9 : t_desk_size = w2 := congrArg (fun z9 => z9.2.2.2.1) h9
    subst e9
    have e9 : t_desk_limit = w3 := congrArg (fun z9 => z9.2.2.2.2.1) h9
    subst e9
    have e9 : t_desk_tree = w4 := congrArg (fun z9 => z9.2.2.2.2.2.1) h9
    subst e9
    have e9 : t_deeds_now = w5 := congrArg (fun z9 => z9.2.2.2.2.2.2.1) h9
    subst e9
    have e9 : t_deeds_last = w6 := congrArg (fun z9 => z9.2.2.2.2.2.2.2.1) h9
    subst e9
    have e9 : a_t_deeds_desks = w7 := congrArg (fun z9 => z9.2.2.2.2.2.2.2.2.1) h9
    subst e9
    have e9 : t_deeds_desks_genus = w8 := congrArg (fun z9 => z9.2.2.2.2.2.2.2.2.2.1) h9
    subst e9
    have e9 : t_deeds_desks_limit = w9 := congrArg (fun z9 => z9.2.2.2.2.2.2.2.2.2.2.1) h9
    subst e9
    have e9 : t_deeds_desks_size = w10 := congrArg (fun z9 => z9.2.2.2.2.2.2.2.2.2.2.2.1) h9
    subst e9
    have e9 : t_deeds_desks_tree = w11 := congrArg (fun z9 => z9.2.2.2.2.2.2.2.2.2.2.2.2) h9
    subst e9
    exact k_iret hx hb hr hlocks hP hS rfl dX8_restore_9
  have h := it_n h c1
  refine lv_aload_n hx hb dX8_restore_10 rfl (lv_at hl 0 rfl) ?_
  refine va_get (D := G) (ci := 7) (v := .ref h_t_desk) (C := RX8) (T := TX8) (N := 9) hx hb hts hinX8 hown hK hP 0 rfl rfl 0 (by decide) (hta _ mw_354) (fun _ h9 => h9) rfl dX8_restore_11 ?_
  refine lv_aload_n hx hb dX8_restore_14 rfl (lv_at hl 0 rfl) ?_
  refine va_get (D := G) (ci := 7) (v := .ref h_t_imageDesk) (C := RX8) (T := TX8) (N := 9) hx hb hts hinX8 hown hK hP 0 rfl rfl 1 (by decide) (hta _ mw_355) (fun _ h9 => h9) rfl dX8_restore_15 ?_
  obtain ⟨x2, hx2, h⟩ := bd_e h
  try dsimp only at h
  refine k_Vv (n := 1) (As := [.ref h_t_imageDesk]) (rest := []) hx hb hml hown hts (c_X1_copyFrom l G cI cJ cD cH s.heap.size h_t_desk h_t_imageDesk h_t_desk_powers h_t_imageDesk_powers t_desk_genus t_desk_size t_desk_limit t_desk_tree t_imageDesk_genus t_imageDesk_size t_imageDesk_limit t_imageDesk_tree a_t_desk_powers a_t_imageDesk_powers (x2.1) (x2.2.1) (x2.2.2.1) (x2.2.2.2.1) (x2.2.2.2.2) hx2) gX8_restore_X1_copyFrom rfl rfl rfl (by decide +kernel) ⟨by first | exact Nat.le_of_ble_eq_true rfl | (simp only [headSpec]; omega), by first | exact Nat.le_of_ble_eq_true rfl | (simp only [headSpec]; omega)⟩ hK hP hD hS hA [1, 2, 3, 4] (by decide) rfl rfl (ci := 1) rfl rfl rfl rfl rfl hl.1 (Nat.le_of_ble_eq_true rfl) dX8_restore_18 ⟨Nat.zero_le _, Nat.zero_le _⟩ [(h_t, .inr (7, [.ref h_t_desk, .ref h_t_imageDesk, .ref h_t_deeds, .ref h_t_numbers, .ref h_t_tape, .ref h_t_reader, .ref h_t_speller, .ref h_t_holders, .int t_imageKept])), (h_t_desk, .inr (1, [.int (x2.2.1), .int (x2.2.2.1), .ref h_t_desk_powers, .int (x2.2.2.2.1), .long (x2.2.2.2.2)])), (h_t_imageDesk, .inr (1, [.int t_imageDesk_genus, .int t_imageDesk_size, .ref h_t_imageDesk_powers, .int t_imageDesk_limit, .long t_imageDesk_tree])), (h_t_desk_powers, .inl (cI, 8, .inl (x2.1))), (h_t_imageDesk_powers, .inl (cI, 8, .inl a_t_imageDesk_powers)), (h_t_deeds, .inr (0, [.ref h_t_deeds_desks, .int t_deeds_now, .int t_deeds_last])), (h_t_deeds_desks, .inl (cD, 9, .inr (.inr (.inr (.inr (fun i => some (d_t_deeds_desks i))))))), ((d_t_deeds_desks 0), .inr (1, [.int (t_deeds_desks_genus 0), .int (t_deeds_desks_size 0), .ref (q_t_deeds_desks 0), .int (t_deeds_desks_limit 0), .long (t_deeds_desks_tree 0)])), ((q_t_deeds_desks 0), .inl (cI, 8, .inl (a_t_deeds_desks 0))), ((d_t_deeds_desks 1), .inr (1, [.int (t_deeds_desks_genus 1), .int (t_deeds_desks_size 1), .ref (q_t_deeds_desks 1), .int (t_deeds_desks_limit 1), .long (t_deeds_desks_tree 1)])), ((q_t_deeds_desks 1), .inl (cI, 8, .inl (a_t_deeds_desks 1))), ((d_t_deeds_desks 2), .inr (1, [.int (t_deeds_desks_genus 2), .int (t_deeds_desks_size 2), .ref (q_t_deeds_desks 2), .int (t_deeds_desks_limit 2), .long (t_deeds_desks_tree 2)])), ((q_t_deeds_desks 2), .inl (cI, 8, .inl (a_t_deeds_desks 2))), ((d_t_deeds_desks 3), .inr (1, [.int (t_deeds_desks_genus 3), .int (t_deeds_desks_size 3), .ref (q_t_deeds_desks 3), .int (t_deeds_desks_limit 3), .long (t_deeds_desks_tree 3)])), ((q_t_deeds_desks 3), .inl (cI, 8, .inl (a_t_deeds_desks 3))), ((d_t_deeds_desks 4), .inr (1, [.int (t_deeds_desks_genus 4), .int (t_deeds_desks_size 4), .ref (q_t_deeds_desks 4), .int (t_deeds_desks_limit 4), .long (t_deeds_desks_tree 4)])), ((q_t_deeds_desks 4), .inl (cI, 8, .inl (a_t_deeds_desks 4))), ((d_t_deeds_desks 5), .inr (1, [.int (t_deeds_desks_genus 5), .int (t_deeds_desks_size 5), .ref (q_t_deeds_desks 5), .int (t_deeds_desks_limit 5), .long (t_deeds_desks_tree 5)])), ((q_t_deeds_desks 5), .inl (cI, 8, .inl (a_t_deeds_desks 5))), ((d_t_deeds_desks 6), .inr (1, [.int (t_deeds_desks_genus 6), .int (t_deeds_desks_size 6), .ref (q_t_deeds_desks 6), .int (t_deeds_desks_limit 6), .long (t_deeds_desks_tree 6)])), ((q_t_deeds_desks 6), .inl (cI, 8, .inl (a_t_deeds_desks 6))), ((d_t_deeds_desks 7), .inr (1, [.int (t_deeds_desks_genus 7), .int (t_deeds_desks_size 7), .ref (q_t_deeds_desks 7), .int (t_deeds_desks_limit 7), .long (t_deeds_desks_tree 7)])), ((q_t_deeds_desks 7), .inl (cI, 8, .inl (a_t_deeds_desks 7))), ((d_t_deeds_desks 8), .inr (1, [.int (t_deeds_desks_genus 8), .int (t_deeds_desks_size 8), .ref (q_t_deeds_desks 8), .int (t_deeds_desks_limit 8), .long (t_deeds_desks_tree 8)])), ((q_t_deeds_desks 8), .inl (cI, 8, .inl (a_t_deeds_desks 8)))] [0, 5, 6, 7, 8, 9, 10, 11, 12, 13, 14, 15, 16, 17, 18, 19, 20, 21, 22, 23, 24] 25 rfl rfl rfl (by decide +kernel) rfl (fun hp2 H locs hP hD hS => ?_)
  refine lv_aload_n hx hb dX8_restore_21 rfl (lv_at hl 0 rfl) ?_
  refine va_get (D := G) (ci := 7) (v := .ref h_t_deeds) (C := RX8) (T := TX8) (N := 9) hx hb hts hinX8 hown hK hP 0 rfl rfl 2 (by decide) (hta _ mw_358) (fun _ h9 => h9) rfl dX8_restore_22 ?_
  refine lv_aload_n hx hb dX8_restore_25 rfl (lv_at hl 0 rfl) ?_
  refine va_get (D := G) (ci := 7) (v := .ref h_t_desk) (C := RX8) (T := TX8) (N := 9) hx hb hts hinX8 hown hK hP 0 rfl rfl 0 (by decide) (hta _ mw_354) (fun _ h9 => h9) rfl dX8_restore_26 ?_
  obtain ⟨x3, hx3, h⟩ := bd_e h
  try dsimp only at h
  refine k_Vv (n := 1) (As := [.ref h_t_desk]) (rest := []) hx hb hml hown hts (c_X0_startAnew l G cI cJ cD cH H.size h_t_deeds h_t_desk h_t_deeds_desks h_t_desk_powers d_t_deeds_desks q_t_deeds_desks a_t_deeds_desks t_deeds_desks_genus t_deeds_desks_size t_deeds_desks_limit t_deeds_desks_tree t_deeds_now t_deeds_last (x2.2.1) (x2.2.2.1) (x2.2.2.2.1) (x2.2.2.2.2) (x2.1) (x3.1) (x3.2.1) (x3.2.2.1) (x3.2.2.2.1) (x3.2.2.2.2.1) (x3.2.2.2.2.2.1) (x3.2.2.2.2.2.2) hx3) gX8_restore_X0_startAnew rfl rfl rfl (by decide +kernel) ⟨by first | exact Nat.le_of_ble_eq_true rfl | (simp only [headSpec]; omega), by first | exact Nat.le_of_ble_eq_true rfl | (simp only [headSpec]; omega)⟩ hK hP hD hS hA [5, 1, 6, 7, 8, 9, 10, 11, 12, 13, 14, 15, 16, 17, 18, 19, 20, 21, 22, 23, 24, 3] (by decide) rfl rfl (ci := 0) rfl rfl rfl rfl rfl hl.1 (Nat.le_of_ble_eq_true rfl) dX8_restore_29 ⟨Nat.zero_le _, Nat.zero_le _⟩ [(h_t, .inr (7, [.ref h_t_desk, .ref h_t_imageDesk, .ref h_t_deeds, .ref h_t_numbers, .ref h_t_tape, .ref h_t_reader, .ref h_t_speller, .ref h_t_holders, .int t_imageKept])), (h_t_desk, .inr (1, [.int (x2.2.1), .int (x2.2.2.1), .ref h_t_desk_powers, .int (x2.2.2.2.1), .long (x2.2.2.2.2)])), (h_t_imageDesk, .inr (1, [.int t_imageDesk_genus, .int t_imageDesk_size, .ref h_t_imageDesk_powers, .int t_imageDesk_limit, .long t_imageDesk_tree])), (h_t_desk_powers, .inl (cI, 8, .inl (x2.1))), (h_t_imageDesk_powers, .inl (cI, 8, .inl a_t_imageDesk_powers)), (h_t_deeds, .inr (0, [.ref h_t_deeds_desks, .int (x3.1), .int (x3.2.1)])), (h_t_deeds_desks, .inl (cD, 9, .inr (.inr (.inr (.inr (fun i => some (d_t_deeds_desks i))))))), ((d_t_deeds_desks 0), .inr (1, [.int ((x3.2.2.2.1) 0), .int ((x3.2.2.2.2.2.1) 0), .ref (q_t_deeds_desks 0), .int ((x3.2.2.2.2.1) 0), .long ((x3.2.2.2.2.2.2) 0)])), ((q_t_deeds_desks 0), .inl (cI, 8, .inl ((x3.2.2.1) 0))), ((d_t_deeds_desks 1), .inr (1, [.int ((x3.2.2.2.1) 1), .int ((x3.2.2.2.2.2.1) 1), .ref (q_t_deeds_desks 1), .int ((x3.2.2.2.2.1) 1), .long ((x3.2.2.2.2.2.2) 1)])), ((q_t_deeds_desks 1), .inl (cI, 8, .inl ((x3.2.2.1) 1))), ((d_t_deeds_desks 2), .inr (1, [.int ((x3.2.2.2.1) 2), .int ((x3.2.2.2.2.2.1) 2), .ref (q_t_deeds_desks 2), .int ((x3.2.2.2.2.1) 2), .long ((x3.2.2.2.2.2.2) 2)])), ((q_t_deeds_desks 2), .inl (cI, 8, .inl ((x3.2.2.1) 2))), ((d_t_deeds_desks 3), .inr (1, [.int ((x3.2.2.2.1) 3), .int ((x3.2.2.2.2.2.1) 3), .ref (q_t_deeds_desks 3), .int ((x3.2.2.2.2.1) 3), .long ((x3.2.2.2.2.2.2) 3)])), ((q_t_deeds_desks 3), .inl (cI, 8, .inl ((x3.2.2.1) 3))), ((d_t_deeds_desks 4), .inr (1, [.int ((x3.2.2.2.1) 4), .int ((x3.2.2.2.2.2.1) 4), .ref (q_t_deeds_desks 4), .int ((x3.2.2.2.2.1) 4), .long ((x3.2.2.2.2.2.2) 4)])), ((q_t_deeds_desks 4), .inl (cI, 8, .inl ((x3.2.2.1) 4))), ((d_t_deeds_desks 5), .inr (1, [.int ((x3.2.2.2.1) 5), .int ((x3.2.2.2.2.2.1) 5), .ref (q_t_deeds_desks 5), .int ((x3.2.2.2.2.1) 5), .long ((x3.2.2.2.2.2.2) 5)])), ((q_t_deeds_desks 5), .inl (cI, 8, .inl ((x3.2.2.1) 5))), ((d_t_deeds_desks 6), .inr (1, [.int ((x3.2.2.2.1) 6), .int ((x3.2.2.2.2.2.1) 6), .ref (q_t_deeds_desks 6), .int ((x3.2.2.2.2.1) 6), .long ((x3.2.2.2.2.2.2) 6)])), ((q_t_deeds_desks 6), .inl (cI, 8, .inl ((x3.2.2.1) 6))), ((d_t_deeds_desks 7), .inr (1, [.int ((x3.2.2.2.1) 7), .int ((x3.2.2.2.2.2.1) 7), .ref (q_t_deeds_desks 7), .int ((x3.2.2.2.2.1) 7), .long ((x3.2.2.2.2.2.2) 7)])), ((q_t_deeds_desks 7), .inl (cI, 8, .inl ((x3.2.2.1) 7))), ((d_t_deeds_desks 8), .inr (1, [.int ((x3.2.2.2.1) 8), .int ((x3.2.2.2.2.2.1) 8), .ref (q_t_deeds_desks 8), .int ((x3.2.2.2.2.1) 8), .long ((x3.2.2.2.2.2.2) 8)])), ((q_t_deeds_desks 8), .inl (cI, 8, .inl ((x3.2.2.1) 8)))] [0, 2, 4] 25 rfl rfl rfl (by decide +kernel) rfl (fun hp3 H locs hP hD hS => ?_)
  refine lv_aload_n hx hb dX8_restore_32 rfl (lv_at hl 0 rfl) ?_
  refine va_get (D := G) (ci := 7) (v := .ref h_t_desk) (C := RX8) (T := TX8) (N := 9) hx hb hts hinX8 hown hK hP 0 rfl rfl 0 (by decide) (hta _ mw_354) (fun _ h9 => h9) rfl dX8_restore_33 ?_
  refine va_get (D := G) (ci := 1) (v := .int (x2.2.2.1)) (C := RX1) (T := TX1) (N := 5) hx hb hts hinX1 hown hK hP 1 rfl rfl 1 (by decide) (hta _ mw_390) (fun _ h9 => h9) rfl dX8_restore_36 ?_
  have h9 := Option.some.inj h
  have e9 : (x2.2.2.1) = r0 := congrArg (fun z9 => z9.1) h9
  subst e9
  have e9 : (x2.1) = w0 := congrArg (fun z9 => z9.2.1) h9
  subst e9
  have e9 : (x2.2.1) = w1 := congrArg (fun z9 => z9.2.2.1) h9
  subst e9
  have e9 : (x2.2.2.1) = w2 := congrArg (fun z9 => z9.2.2.2.1) h9
  subst e9
  have e9 : (x2.2.2.2.1) = w3 := congrArg (fun z9 => z9.2.2.2.2.1) h9
  subst e9
  have e9 : (x2.2.2.2.2) = w4 := congrArg (fun z9 => z9.2.2.2.2.2.1) h9
  subst e9
  have e9 : (x3.1) = w5 := congrArg (fun z9 => z9.2.2.2.2.2.2.1) h9
  subst e9
  have e9 : (x3.2.1) = w6 := congrArg (fun z9 => z9.2.2.2.2.2.2.2.1) h9
  subst e9
  have e9 : (x3.2.2.1) = w7 := congrArg (fun z9 => z9.2.2.2.2.2.2.2.2.1) h9
  subst e9
  have e9 : (x3.2.2.2.1) = w8 := congrArg (fun z9 => z9.2.2.2.2.2.2.2.2.2.1) h9
  subst e9
  have e9 : (x3.2.2.2.2.1) = w9 := congrArg (fun z9 => z9.2.2.2.2.2.2.2.2.2.2.1) h9
  subst e9
  have e9 : (x3.2.2.2.2.2.1) = w10 := congrArg (fun z9 => z9.2.2.2.2.2.2.2.2.2.2.2.1) h9
  subst e9
  have e9 : (x3.2.2.2.2.2.2) = w11 := congrArg (fun z9 => z9.2.2.2.2.2.2.2.2.2.2.2.2) h9
  subst e9
  exact k_iret hx hb hr hlocks hP hS rfl dX8_restore_39

/-! X8_count -/
set_option maxHeartbeats 4000000 in
set_option maxRecDepth 100000 in
theorem c_X8_count (l : Launch) (G : va_G) (cI cJ cD cH : ClassId) (sz : Nat) (h_t : Nat) (h_t_desk : Nat) (h_t_deeds : Nat) (h_t_tape : Nat) (h_t_imageDesk : Nat) (h_t_numbers : Nat) (h_t_reader : Nat) (h_t_speller : Nat) (h_t_holders : Nat) (h_t_desk_powers : Nat) (h_t_deeds_desks : Nat) (h_t_tape_bytes : Nat) (t_imageKept : Int32) (t_desk_genus : Int32) (t_desk_size : Int32) (t_desk_limit : Int32) (t_desk_tree : Int64) (t_deeds_now : Int32) (t_deeds_last : Int32) (t_tape_size : Int32) (p0 : Int32) (r0 : Int32) (hF : F_X8_count t_desk_genus t_desk_size t_desk_limit t_desk_tree t_deeds_now t_deeds_last t_tape_size p0 = some r0) : Met l yX8_count wsX8_count ({ frames := 2, cells := 0, slots := 0, locals := 42 }) (k_pre G (k_T cI cJ cD cH) [(h_t, .inr (7, [.ref h_t_desk, .ref h_t_imageDesk, .ref h_t_deeds, .ref h_t_numbers, .ref h_t_tape, .ref h_t_reader, .ref h_t_speller, .ref h_t_holders, .int t_imageKept])), (h_t_desk, .inr (1, [.int t_desk_genus, .int t_desk_size, .ref h_t_desk_powers, .int t_desk_limit, .long t_desk_tree])), (h_t_deeds, .inr (0, [.ref h_t_deeds_desks, .int t_deeds_now, .int t_deeds_last])), (h_t_tape, .inr (6, [.ref h_t_tape_bytes, .int t_tape_size]))] sz [.ref h_t, .int p0]) (va_Qi (fun r (_ : Unit) => r = r0 ∧ True) (fun _ t => va_P G vwCl [(h_t, .inr (7, [.ref h_t_desk, .ref h_t_imageDesk, .ref h_t_deeds, .ref h_t_numbers, .ref h_t_tape, .ref h_t_reader, .ref h_t_speller, .ref h_t_holders, .int t_imageKept])), (h_t_desk, .inr (1, [.int t_desk_genus, .int t_desk_size, .ref h_t_desk_powers, .int t_desk_limit, .long t_desk_tree])), (h_t_deeds, .inr (0, [.ref h_t_deeds_desks, .int t_deeds_now, .int t_deeds_last])), (h_t_tape, .inr (6, [.ref h_t_tape_bytes, .int t_tape_size]))] t.heap) (va_A [(h_t, .inr (7, [.ref h_t_desk, .ref h_t_imageDesk, .ref h_t_deeds, .ref h_t_numbers, .ref h_t_tape, .ref h_t_reader, .ref h_t_speller, .ref h_t_holders, .int t_imageKept])), (h_t_desk, .inr (1, [.int t_desk_genus, .int t_desk_size, .ref h_t_desk_powers, .int t_desk_limit, .long t_desk_tree])), (h_t_deeds, .inr (0, [.ref h_t_deeds_desks, .int t_deeds_now, .int t_deeds_last])), (h_t_tape, .inr (6, [.ref h_t_tape_bytes, .int t_tape_size]))] sz)) 0 0 (va_A [(h_t, .inr (7, [.ref h_t_desk, .ref h_t_imageDesk, .ref h_t_deeds, .ref h_t_numbers, .ref h_t_tape, .ref h_t_reader, .ref h_t_speller, .ref h_t_holders, .int t_imageKept])), (h_t_desk, .inr (1, [.int t_desk_genus, .int t_desk_size, .ref h_t_desk_powers, .int t_desk_limit, .long t_desk_tree])), (h_t_deeds, .inr (0, [.ref h_t_deeds_desks, .int t_deeds_now, .int t_deeds_last])), (h_t_tape, .inr (6, [.ref h_t_tape_bytes, .int t_tape_size]))] sz) := by
  refine Met.ofW (cc := cX8_count) (maxL := 2) (ret := (some .int)) (by decide) rfl ?_
  intro p e s m args below meth c s₁ B hml hv
  obtain ⟨rfl, hsz, hP, hK, hD0⟩ := hv
  have hx := B.exec
  have hb := B.bytes
  have hr := B.returns
  have hts := atoms_spec (ws := wsX8_count) B.pre
  have hta : ∀ w ∈ wA, w.before ([.ref h_t, .int p0] : List Value).toArray s = true := hta_of hts
  have hown : s.vm.findClass RX8 = some m.cls := findClass_of_methodNamed B.named
  have hlocks := B.notSynchronized
  subst hsz
  have hD := hD0.self (sz := s.heap.size)
  generalize hAe : va_A [(h_t, .inr (7, [.ref h_t_desk, .ref h_t_imageDesk, .ref h_t_deeds, .ref h_t_numbers, .ref h_t_tape, .ref h_t_reader, .ref h_t_speller, .ref h_t_holders, .int t_imageKept])), (h_t_desk, .inr (1, [.int t_desk_genus, .int t_desk_size, .ref h_t_desk_powers, .int t_desk_limit, .long t_desk_tree])), (h_t_deeds, .inr (0, [.ref h_t_deeds_desks, .int t_deeds_now, .int t_deeds_last])), (h_t_tape, .inr (6, [.ref h_t_tape_bytes, .int t_tape_size]))] s.heap.size = A at hD ⊢
  have hA : ∀ q : Nat, s.heap.size ≤ q → A q := fun q h => by rw [← hAe]; exact Or.inr h
  have hS : va_S A s.heap s.heap [] := va_S.rf
  have hl := lv_entry ([.ref h_t, .int p0]) (n := 2) (Nat.le_of_ble_eq_true rfl)
  rw [lg_entry_eq]
  generalize (lg_sl ([.ref h_t, .int p0]) ++ List.replicate (2 - (lg_sl ([.ref h_t, .int p0])).length) Slot.unset).toArray = ls at hl ⊢
  have hl : lv_has ls 2 [(0, .ref h_t), (1, .int p0)] := hl
  have hinX1 : ∀ w ∈ wsX10, w ∈ wsX8_count := hin_of in_X1
  have hinX7 : ∀ w ∈ wsX70, w ∈ wsX8_count := hin_of in_X7
  have hinX8 : ∀ w ∈ wsX80, w ∈ wsX8_count := hin_of in_X8
  have h := hF
  unfold F_X8_count at h
  refine lv_iload_n hx hb dX8_count_0 rfl (lv_at hl 1 rfl) ?_
  by_cases c1 : p0 = (0 : Int32)
  · have h := it_p h c1
    refine lv_tableIn (tgt := 44) hx hb dX8_count_1 (by rw [c1]; decide) (by rw [c1]; decide) (off := 43) (by rw [c1]; decide) (by decide) ?_
    refine lv_aload_n hx hb dX8_count_44 rfl (lv_at hl 0 rfl) ?_
    refine va_get (D := G) (ci := 7) (v := .ref h_t_desk) (C := RX8) (T := TX8) (N := 9) hx hb hts hinX8 hown hK hP 0 rfl rfl 0 (by decide) (hta _ mw_354) (fun _ h9 => h9) rfl dX8_count_45 ?_
    refine va_get (D := G) (ci := 1) (v := .int t_desk_genus) (C := RX1) (T := TX1) (N := 5) hx hb hts hinX1 hown hK hP 1 rfl rfl 0 (by decide) (hta _ mw_385) (fun _ h9 => h9) rfl dX8_count_48 ?_
    have h9 := Option.some.inj h
    have e9 : t_desk_genus = r0 := congrArg (fun z9 => z9) h9
    subst e9
    exact k_iret hx hb hr hlocks hP hS rfl dX8_count_51
  have h := it_n h c1
  by_cases c2 : p0 = (1 : Int32)
  · have h := it_p h c2
    refine lv_tableIn (tgt := 52) hx hb dX8_count_1 (by rw [c2]; decide) (by rw [c2]; decide) (off := 51) (by rw [c2]; decide) (by decide) ?_
    refine lv_aload_n hx hb dX8_count_52 rfl (lv_at hl 0 rfl) ?_
    refine va_get (D := G) (ci := 7) (v := .ref h_t_desk) (C := RX8) (T := TX8) (N := 9) hx hb hts hinX8 hown hK hP 0 rfl rfl 0 (by decide) (hta _ mw_354) (fun _ h9 => h9) rfl dX8_count_53 ?_
    refine va_get (D := G) (ci := 1) (v := .int t_desk_size) (C := RX1) (T := TX1) (N := 5) hx hb hts hinX1 hown hK hP 1 rfl rfl 1 (by decide) (hta _ mw_390) (fun _ h9 => h9) rfl dX8_count_56 ?_
    have h9 := Option.some.inj h
    have e9 : t_desk_size = r0 := congrArg (fun z9 => z9) h9
    subst e9
    exact k_iret hx hb hr hlocks hP hS rfl dX8_count_59
  have h := it_n h c2
  by_cases c3 : p0 = (2 : Int32)
  · have h := it_p h c3
    refine lv_tableIn (tgt := 60) hx hb dX8_count_1 (by rw [c3]; decide) (by rw [c3]; decide) (off := 59) (by rw [c3]; decide) (by decide) ?_
    refine lv_aload_n hx hb dX8_count_60 rfl (lv_at hl 0 rfl) ?_
    refine va_get (D := G) (ci := 7) (v := .ref h_t_desk) (C := RX8) (T := TX8) (N := 9) hx hb hts hinX8 hown hK hP 0 rfl rfl 0 (by decide) (hta _ mw_354) (fun _ h9 => h9) rfl dX8_count_61 ?_
    refine va_get (D := G) (ci := 1) (v := .int t_desk_limit) (C := RX1) (T := TX1) (N := 5) hx hb hts hinX1 hown hK hP 1 rfl rfl 3 (by decide) (hta _ mw_476) (fun _ h9 => h9) rfl dX8_count_64 ?_
    have h9 := Option.some.inj h
    have e9 : t_desk_limit = r0 := congrArg (fun z9 => z9) h9
    subst e9
    exact k_iret hx hb hr hlocks hP hS rfl dX8_count_67
  have h := it_n h c3
  by_cases c4 : p0 = (3 : Int32)
  · have h := it_p h c4
    refine lv_tableIn (tgt := 68) hx hb dX8_count_1 (by rw [c4]; decide) (by rw [c4]; decide) (off := 67) (by rw [c4]; decide) (by decide) ?_
    refine lv_aload_n hx hb dX8_count_68 rfl (lv_at hl 0 rfl) ?_
    refine va_get (D := G) (ci := 7) (v := .ref h_t_desk) (C := RX8) (T := TX8) (N := 9) hx hb hts hinX8 hown hK hP 0 rfl rfl 0 (by decide) (hta _ mw_354) (fun _ h9 => h9) rfl dX8_count_69 ?_
    refine va_get (D := G) (ci := 1) (v := .long t_desk_tree) (C := RX1) (T := TX1) (N := 5) hx hb hts hinX1 hown hK hP 1 rfl rfl 4 (by decide) (hta _ mw_477) (fun _ h9 => h9) rfl dX8_count_72 ?_
    obtain ⟨x5, hx5, h⟩ := bd_e h
    try dsimp only at h
    refine k_SiU (n := 1) (As := [.long t_desk_tree]) (rest := []) hx hb hml hown hts (c_X6_sizeOf l G cI cJ cD cH s.heap.size t_desk_tree x5 hx5) gX8_count_X6_sizeOf rfl rfl rfl (by decide +kernel) ⟨by first | exact Nat.le_of_ble_eq_true rfl | (simp only [headSpec]; omega), by first | exact Nat.le_of_ble_eq_true rfl | (simp only [headSpec]; omega)⟩ hK hP hD hS hA [] (by decide) rfl rfl rfl hl.1 (Nat.le_of_ble_eq_true rfl) dX8_count_75 ⟨Nat.zero_le _, Nat.zero_le _⟩ (fun hp5 H locs hP hS => ?_)
    have h9 := Option.some.inj h
    have e9 : x5 = r0 := congrArg (fun z9 => z9) h9
    subst e9
    exact k_iret hx hb hr hlocks hP hS rfl dX8_count_78
  have h := it_n h c4
  by_cases c6 : p0 = (4 : Int32)
  · have h := it_p h c6
    refine lv_tableIn (tgt := 79) hx hb dX8_count_1 (by rw [c6]; decide) (by rw [c6]; decide) (off := 78) (by rw [c6]; decide) (by decide) ?_
    refine lv_aload_n hx hb dX8_count_79 rfl (lv_at hl 0 rfl) ?_
    refine va_get (D := G) (ci := 7) (v := .ref h_t_deeds) (C := RX8) (T := TX8) (N := 9) hx hb hts hinX8 hown hK hP 0 rfl rfl 2 (by decide) (hta _ mw_358) (fun _ h9 => h9) rfl dX8_count_80 ?_
    obtain ⟨x7, hx7, h⟩ := bd_e h
    try dsimp only at h
    refine k_ViU (n := 0) (As := []) (rest := []) hx hb hml hown hts (c_X0_undoable l G cI cJ cD cH s.heap.size h_t_deeds h_t_deeds_desks t_deeds_now t_deeds_last x7 hx7) gX8_count_X0_undoable rfl rfl rfl (by decide +kernel) ⟨by first | exact Nat.le_of_ble_eq_true rfl | (simp only [headSpec]; omega), by first | exact Nat.le_of_ble_eq_true rfl | (simp only [headSpec]; omega)⟩ hK hP hD hS hA [2] (by decide) rfl (ci := 0) rfl rfl rfl rfl rfl hl.1 (Nat.le_of_ble_eq_true rfl) dX8_count_83 ⟨Nat.zero_le _, Nat.zero_le _⟩ (fun hp7 H locs hP hS => ?_)
    have h9 := Option.some.inj h
    have e9 : x7 = r0 := congrArg (fun z9 => z9) h9
    subst e9
    exact k_iret hx hb hr hlocks hP hS rfl dX8_count_86
  have h := it_n h c6
  by_cases c8 : p0 = (5 : Int32)
  · have h := it_p h c8
    refine lv_tableIn (tgt := 87) hx hb dX8_count_1 (by rw [c8]; decide) (by rw [c8]; decide) (off := 86) (by rw [c8]; decide) (by decide) ?_
    refine lv_aload_n hx hb dX8_count_87 rfl (lv_at hl 0 rfl) ?_
    refine va_get (D := G) (ci := 7) (v := .ref h_t_deeds) (C := RX8) (T := TX8) (N := 9) hx hb hts hinX8 hown hK hP 0 rfl rfl 2 (by decide) (hta _ mw_358) (fun _ h9 => h9) rfl dX8_count_88 ?_
    obtain ⟨x9, hx9, h⟩ := bd_e h
    try dsimp only at h
    refine k_ViU (n := 0) (As := []) (rest := []) hx hb hml hown hts (c_X0_repeatable l G cI cJ cD cH s.heap.size h_t_deeds h_t_deeds_desks t_deeds_now t_deeds_last x9 hx9) gX8_count_X0_repeatable rfl rfl rfl (by decide +kernel) ⟨by first | exact Nat.le_of_ble_eq_true rfl | (simp only [headSpec]; omega), by first | exact Nat.le_of_ble_eq_true rfl | (simp only [headSpec]; omega)⟩ hK hP hD hS hA [2] (by decide) rfl (ci := 0) rfl rfl rfl rfl rfl hl.1 (Nat.le_of_ble_eq_true rfl) dX8_count_91 ⟨Nat.zero_le _, Nat.zero_le _⟩ (fun hp9 H locs hP hS => ?_)
    have h9 := Option.some.inj h
    have e9 : x9 = r0 := congrArg (fun z9 => z9) h9
    subst e9
    exact k_iret hx hb hr hlocks hP hS rfl dX8_count_94
  have h := it_n h c8
  by_cases c10 : p0 = (6 : Int32)
  · have h := it_p h c10
    refine lv_tableIn (tgt := 95) hx hb dX8_count_1 (by rw [c10]; decide) (by rw [c10]; decide) (off := 94) (by rw [c10]; decide) (by decide) ?_
    refine lv_aload_n hx hb dX8_count_95 rfl (lv_at hl 0 rfl) ?_
    refine va_get (D := G) (ci := 7) (v := .ref h_t_tape) (C := RX8) (T := TX8) (N := 9) hx hb hts hinX8 hown hK hP 0 rfl rfl 4 (by decide) (hta _ mw_366) (fun _ h9 => h9) rfl dX8_count_96 ?_
    refine va_get (D := G) (ci := 6) (v := .int t_tape_size) (C := RX7) (T := TX7) (N := 2) hx hb hts hinX7 hown hK hP 3 rfl rfl 1 (by decide) (hta _ mw_532) (fun _ h9 => h9) rfl dX8_count_99 ?_
    have h9 := Option.some.inj h
    have e9 : t_tape_size = r0 := congrArg (fun z9 => z9) h9
    subst e9
    exact k_iret hx hb hr hlocks hP hS rfl dX8_count_102
  have h := it_n h c10
  refine lv_tableOut (tgt := 103) hx hb dX8_count_1 (k_tout7  c1 c2 c3 c4 c6 c8 c10) (by decide) ?_
  refine lv_iconst (v := (-1 : Int32)) hx hb dX8_count_103 (by decide) ?_
  have h9 := Option.some.inj h
  have e9 : (-1 : Int32) = r0 := congrArg (fun z9 => z9) h9
  subst e9
  exact k_iret hx hb hr hlocks hP hS rfl dX8_count_104
