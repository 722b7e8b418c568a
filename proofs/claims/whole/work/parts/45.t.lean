/-! X8_lose -/
set_option maxHeartbeats 40000000 in
set_option maxRecDepth 100000 in
theorem c_X8_lose (l : Launch) (G : va_G) (cI cJ cD cH : ClassId) (sz : Nat) (h_t : Nat) (h_t_holders : Nat) (h_t_desk : Nat) (h_t_imageDesk : Nat) (h_t_deeds : Nat) (h_t_numbers : Nat) (h_t_tape : Nat) (h_t_reader : Nat) (h_t_speller : Nat) (d_t_holders : Nat → Nat) (q_t_holders : Nat → Nat) (a_t_holders : Nat → Nat → Int32) (t_holders_sort : Nat → Int32) (t_holders_tree : Nat → Int64) (t_holders_limit : Nat → Int32) (t_holders_above : Nat → Int64) (t_holders_size : Nat → Int32) (t_imageKept : Int32) (p0 : Int32) (r0 : Int32) (w0 : Nat → Int32) (hF : F_X8_lose t_holders_sort p0 = some (r0, w0)) : Met l yX8_lose wsX8_lose ({ frames := 1, cells := 0, slots := 0, locals := 21 }) (k_pre G (k_T cI cJ cD cH) [(h_t, .inr (7, [.ref h_t_desk, .ref h_t_imageDesk, .ref h_t_deeds, .ref h_t_numbers, .ref h_t_tape, .ref h_t_reader, .ref h_t_speller, .ref h_t_holders, .int t_imageKept])), (h_t_holders, .inl (cH, 6, .inr (.inr (.inr (.inr (fun i => some (d_t_holders i))))))), ((d_t_holders 0), .inr (2, [.int (t_holders_sort 0), .long (t_holders_tree 0), .int (t_holders_limit 0), .ref (q_t_holders 0), .long (t_holders_above 0), .int (t_holders_size 0)])), ((q_t_holders 0), .inl (cI, 20, .inl (a_t_holders 0))), ((d_t_holders 1), .inr (2, [.int (t_holders_sort 1), .long (t_holders_tree 1), .int (t_holders_limit 1), .ref (q_t_holders 1), .long (t_holders_above 1), .int (t_holders_size 1)])), ((q_t_holders 1), .inl (cI, 20, .inl (a_t_holders 1))), ((d_t_holders 2), .inr (2, [.int (t_holders_sort 2), .long (t_holders_tree 2), .int (t_holders_limit 2), .ref (q_t_holders 2), .long (t_holders_above 2), .int (t_holders_size 2)])), ((q_t_holders 2), .inl (cI, 20, .inl (a_t_holders 2))), ((d_t_holders 3), .inr (2, [.int (t_holders_sort 3), .long (t_holders_tree 3), .int (t_holders_limit 3), .ref (q_t_holders 3), .long (t_holders_above 3), .int (t_holders_size 3)])), ((q_t_holders 3), .inl (cI, 20, .inl (a_t_holders 3))), ((d_t_holders 4), .inr (2, [.int (t_holders_sort 4), .long (t_holders_tree 4), .int (t_holders_limit 4), .ref (q_t_holders 4), .long (t_holders_above 4), .int (t_holders_size 4)])), ((q_t_holders 4), .inl (cI, 20, .inl (a_t_holders 4))), ((d_t_holders 5), .inr (2, [.int (t_holders_sort 5), .long (t_holders_tree 5), .int (t_holders_limit 5), .ref (q_t_holders 5), .long (t_holders_above 5), .int (t_holders_size 5)])), ((q_t_holders 5), .inl (cI, 20, .inl (a_t_holders 5)))] sz [.ref h_t, .int p0]) (va_Qi (fun r (_ : Unit) => r = r0 ∧ True) (fun _ t => va_P G vwCl [(h_t, .inr (7, [.ref h_t_desk, .ref h_t_imageDesk, .ref h_t_deeds, .ref h_t_numbers, .ref h_t_tape, .ref h_t_reader, .ref h_t_speller, .ref h_t_holders, .int t_imageKept])), (h_t_holders, .inl (cH, 6, .inr (.inr (.inr (.inr (fun i => some (d_t_holders i))))))), ((d_t_holders 0), .inr (2, [.int (w0 0), .long (t_holders_tree 0), .int (t_holders_limit 0), .ref (q_t_holders 0), .long (t_holders_above 0), .int (t_holders_size 0)])), ((q_t_holders 0), .inl (cI, 20, .inl (a_t_holders 0))), ((d_t_holders 1), .inr (2, [.int (w0 1), .long (t_holders_tree 1), .int (t_holders_limit 1), .ref (q_t_holders 1), .long (t_holders_above 1), .int (t_holders_size 1)])), ((q_t_holders 1), .inl (cI, 20, .inl (a_t_holders 1))), ((d_t_holders 2), .inr (2, [.int (w0 2), .long (t_holders_tree 2), .int (t_holders_limit 2), .ref (q_t_holders 2), .long (t_holders_above 2), .int (t_holders_size 2)])), ((q_t_holders 2), .inl (cI, 20, .inl (a_t_holders 2))), ((d_t_holders 3), .inr (2, [.int (w0 3), .long (t_holders_tree 3), .int (t_holders_limit 3), .ref (q_t_holders 3), .long (t_holders_above 3), .int (t_holders_size 3)])), ((q_t_holders 3), .inl (cI, 20, .inl (a_t_holders 3))), ((d_t_holders 4), .inr (2, [.int (w0 4), .long (t_holders_tree 4), .int (t_holders_limit 4), .ref (q_t_holders 4), .long (t_holders_above 4), .int (t_holders_size 4)])), ((q_t_holders 4), .inl (cI, 20, .inl (a_t_holders 4))), ((d_t_holders 5), .inr (2, [.int (w0 5), .long (t_holders_tree 5), .int (t_holders_limit 5), .ref (q_t_holders 5), .long (t_holders_above 5), .int (t_holders_size 5)])), ((q_t_holders 5), .inl (cI, 20, .inl (a_t_holders 5)))] t.heap) (va_A [(h_t, .inr (7, [.ref h_t_desk, .ref h_t_imageDesk, .ref h_t_deeds, .ref h_t_numbers, .ref h_t_tape, .ref h_t_reader, .ref h_t_speller, .ref h_t_holders, .int t_imageKept])), (h_t_holders, .inl (cH, 6, .inr (.inr (.inr (.inr (fun i => some (d_t_holders i))))))), ((d_t_holders 0), .inr (2, [.int (t_holders_sort 0), .long (t_holders_tree 0), .int (t_holders_limit 0), .ref (q_t_holders 0), .long (t_holders_above 0), .int (t_holders_size 0)])), ((q_t_holders 0), .inl (cI, 20, .inl (a_t_holders 0))), ((d_t_holders 1), .inr (2, [.int (t_holders_sort 1), .long (t_holders_tree 1), .int (t_holders_limit 1), .ref (q_t_holders 1), .long (t_holders_above 1), .int (t_holders_size 1)])), ((q_t_holders 1), .inl (cI, 20, .inl (a_t_holders 1))), ((d_t_holders 2), .inr (2, [.int (t_holders_sort 2), .long (t_holders_tree 2), .int (t_holders_limit 2), .ref (q_t_holders 2), .long (t_holders_above 2), .int (t_holders_size 2)])), ((q_t_holders 2), .inl (cI, 20, .inl (a_t_holders 2))), ((d_t_holders 3), .inr (2, [.int (t_holders_sort 3), .long (t_holders_tree 3), .int (t_holders_limit 3), .ref (q_t_holders 3), .long (t_holders_above 3), .int (t_holders_size 3)])), ((q_t_holders 3), .inl (cI, 20, .inl (a_t_holders 3))), ((d_t_holders 4), .inr (2, [.int (t_holders_sort 4), .long (t_holders_tree 4), .int (t_holders_limit 4), .ref (q_t_holders 4), .long (t_holders_above 4), .int (t_holders_size 4)])), ((q_t_holders 4), .inl (cI, 20, .inl (a_t_holders 4))), ((d_t_holders 5), .inr (2, [.int (t_holders_sort 5), .long (t_holders_tree 5), .int (t_holders_limit 5), .ref (q_t_holders 5), .long (t_holders_above 5), .int (t_holders_size 5)])), ((q_t_holders 5), .inl (cI, 20, .inl (a_t_holders 5)))] sz)) 0 0 (va_A [(h_t, .inr (7, [.ref h_t_desk, .ref h_t_imageDesk, .ref h_t_deeds, .ref h_t_numbers, .ref h_t_tape, .ref h_t_reader, .ref h_t_speller, .ref h_t_holders, .int t_imageKept])), (h_t_holders, .inl (cH, 6, .inr (.inr (.inr (.inr (fun i => some (d_t_holders i))))))), ((d_t_holders 0), .inr (2, [.int (t_holders_sort 0), .long (t_holders_tree 0), .int (t_holders_limit 0), .ref (q_t_holders 0), .long (t_holders_above 0), .int (t_holders_size 0)])), ((q_t_holders 0), .inl (cI, 20, .inl (a_t_holders 0))), ((d_t_holders 1), .inr (2, [.int (t_holders_sort 1), .long (t_holders_tree 1), .int (t_holders_limit 1), .ref (q_t_holders 1), .long (t_holders_above 1), .int (t_holders_size 1)])), ((q_t_holders 1), .inl (cI, 20, .inl (a_t_holders 1))), ((d_t_holders 2), .inr (2, [.int (t_holders_sort 2), .long (t_holders_tree 2), .int (t_holders_limit 2), .ref (q_t_holders 2), .long (t_holders_above 2), .int (t_holders_size 2)])), ((q_t_holders 2), .inl (cI, 20, .inl (a_t_holders 2))), ((d_t_holders 3), .inr (2, [.int (t_holders_sort 3), .long (t_holders_tree 3), .int (t_holders_limit 3), .ref (q_t_holders 3), .long (t_holders_above 3), .int (t_holders_size 3)])), ((q_t_holders 3), .inl (cI, 20, .inl (a_t_holders 3))), ((d_t_holders 4), .inr (2, [.int (t_holders_sort 4), .long (t_holders_tree 4), .int (t_holders_limit 4), .ref (q_t_holders 4), .long (t_holders_above 4), .int (t_holders_size 4)])), ((q_t_holders 4), .inl (cI, 20, .inl (a_t_holders 4))), ((d_t_holders 5), .inr (2, [.int (t_holders_sort 5), .long (t_holders_tree 5), .int (t_holders_limit 5), .ref (q_t_holders 5), .long (t_holders_above 5), .int (t_holders_size 5)])), ((q_t_holders 5), .inl (cI, 20, .inl (a_t_holders 5)))] sz) := by
  refine Met.ofW (cc := cX8_lose) (maxL := 4) (ret := (some .int)) (by decide) rfl ?_
  intro p e s m args below meth c s₁ B hml hv
  obtain ⟨rfl, hsz, hP, hK, hD0⟩ := hv
  have hx := B.exec
  have hb := B.bytes
  have hr := B.returns
  have hts := atoms_spec (ws := wsX8_lose) B.pre
  have hta : ∀ w ∈ wA, w.before ([.ref h_t, .int p0] : List Value).toArray s = true := hta_of hts
  have hown : s.vm.findClass RX8 = some m.cls := findClass_of_methodNamed B.named
  have hlocks := B.notSynchronized
  subst hsz
  have hD := hD0.self (sz := s.heap.size)
  generalize hAe : va_A [(h_t, .inr (7, [.ref h_t_desk, .ref h_t_imageDesk, .ref h_t_deeds, .ref h_t_numbers, .ref h_t_tape, .ref h_t_reader, .ref h_t_speller, .ref h_t_holders, .int t_imageKept])), (h_t_holders, .inl (cH, 6, .inr (.inr (.inr (.inr (fun i => some (d_t_holders i))))))), ((d_t_holders 0), .inr (2, [.int (t_holders_sort 0), .long (t_holders_tree 0), .int (t_holders_limit 0), .ref (q_t_holders 0), .long (t_holders_above 0), .int (t_holders_size 0)])), ((q_t_holders 0), .inl (cI, 20, .inl (a_t_holders 0))), ((d_t_holders 1), .inr (2, [.int (t_holders_sort 1), .long (t_holders_tree 1), .int (t_holders_limit 1), .ref (q_t_holders 1), .long (t_holders_above 1), .int (t_holders_size 1)])), ((q_t_holders 1), .inl (cI, 20, .inl (a_t_holders 1))), ((d_t_holders 2), .inr (2, [.int (t_holders_sort 2), .long (t_holders_tree 2), .int (t_holders_limit 2), .ref (q_t_holders 2), .long (t_holders_above 2), .int (t_holders_size 2)])), ((q_t_holders 2), .inl (cI, 20, .inl (a_t_holders 2))), ((d_t_holders 3), .inr (2, [.int (t_holders_sort 3), .long (t_holders_tree 3), .int (t_holders_limit 3), .ref (q_t_holders 3), .long (t_holders_above 3), .int (t_holders_size 3)])), ((q_t_holders 3), .inl (cI, 20, .inl (a_t_holders 3))), ((d_t_holders 4), .inr (2, [.int (t_holders_sort 4), .long (t_holders_tree 4), .int (t_holders_limit 4), .ref (q_t_holders 4), .long (t_holders_above 4), .int (t_holders_size 4)])), ((q_t_holders 4), .inl (cI, 20, .inl (a_t_holders 4))), ((d_t_holders 5), .inr (2, [.int (t_holders_sort 5), .long (t_holders_tree 5), .int (t_holders_limit 5), .ref (q_t_holders 5), .long (t_holders_above 5), .int (t_holders_size 5)])), ((q_t_holders 5), .inl (cI, 20, .inl (a_t_holders 5)))] s.heap.size = A at hD ⊢
  have hA : ∀ q : Nat, s.heap.size ≤ q → A q := fun q h => by rw [← hAe]; exact Or.inr h
  have hS : va_S A s.heap s.heap [] := va_S.rf
  have hl := lv_entry ([.ref h_t, .int p0]) (n := 4) (Nat.le_of_ble_eq_true rfl)
  rw [lg_entry_eq]
  generalize (lg_sl ([.ref h_t, .int p0]) ++ List.replicate (4 - (lg_sl ([.ref h_t, .int p0])).length) Slot.unset).toArray = ls at hl ⊢
  have hl : lv_has ls 4 [(0, .ref h_t), (1, .int p0)] := hl
  have hinX2 : ∀ w ∈ wsX20, w ∈ wsX8_lose := hin_of in_X2
  have h := hF
  unfold F_X8_lose at h
  refine lv_aload_n hx hb dX8_lose_0 rfl (lv_at hl 0 rfl) ?_
  refine lv_iload_n hx hb dX8_lose_1 rfl (lv_at hl 1 rfl) ?_
  obtain ⟨x1, hx1, h⟩ := bd_e h
  try dsimp only at h
  have hc1 := k_lt_X8_holderAt hx1
  by_cases hd1 : x1 = 6
  · subst hd1
    refine k_VqU (n := 1) (As := [.int p0]) (rest := []) hx hb hml hown hts (c_X8_holderAt l G cI cJ cD cH s.heap.size h_t h_t_holders h_t_desk h_t_imageDesk h_t_deeds h_t_numbers h_t_tape h_t_reader h_t_speller d_t_holders q_t_holders a_t_holders t_holders_sort t_holders_tree t_holders_limit t_holders_above t_holders_size t_imageKept p0 6 hx1) gX8_lose_X8_holderAt rfl rfl rfl (by decide +kernel) ⟨by first | exact Nat.le_of_ble_eq_true rfl | (simp only [headSpec]; omega), by first | exact Nat.le_of_ble_eq_true rfl | (simp only [headSpec]; omega)⟩ hK hP hD hS hA [0, 1, 2, 3, 4, 5, 6, 7, 8, 9, 10, 11, 12, 13] (by decide) rfl (ci := 7) rfl rfl rfl rfl rfl hl.1 (Nat.le_of_ble_eq_true rfl) dX8_lose_2 ⟨Nat.zero_le _, Nat.zero_le _⟩ (fun hp1 H locs hP hS => ?_)
    refine W.eq (g2 := F0 m 5 ls [.null]) rfl ?_
    have h := it_p h rfl
    refine lv_astore_nN (lv' := [(2, .null), (0, .ref h_t), (1, .int p0)]) hx hb dX8_lose_5 rfl hl (by decide) rfl (fun ls hl => ?_)
    refine lv_aload_nN hx hb dX8_lose_6 rfl (lv_at hl 0 rfl) ?_
    refine lv_ifnonnullN hx hb dX8_lose_7 ?_
    refine lv_iconst (v := (-1 : Int32)) hx hb dX8_lose_10 (by decide) ?_
    have h9 := Option.some.inj h
    have e9 : (-1 : Int32) = r0 := congrArg (fun z9 => z9.1) h9
    subst e9
    have e9 : t_holders_sort = w0 := congrArg (fun z9 => z9.2) h9
    subst e9
    exact k_iret hx hb hr hlocks hP hS rfl dX8_lose_11
  have hb1 : x1 < 6 := by omega
  refine k_VqU (n := 1) (As := [.int p0]) (rest := []) hx hb hml hown hts (c_X8_holderAt l G cI cJ cD cH s.heap.size h_t h_t_holders h_t_desk h_t_imageDesk h_t_deeds h_t_numbers h_t_tape h_t_reader h_t_speller d_t_holders q_t_holders a_t_holders t_holders_sort t_holders_tree t_holders_limit t_holders_above t_holders_size t_imageKept p0 x1 hx1) gX8_lose_X8_holderAt rfl rfl rfl (by decide +kernel) ⟨by first | exact Nat.le_of_ble_eq_true rfl | (simp only [headSpec]; omega), by first | exact Nat.le_of_ble_eq_true rfl | (simp only [headSpec]; omega)⟩ hK hP hD hS hA [0, 1, 2, 3, 4, 5, 6, 7, 8, 9, 10, 11, 12, 13] (by decide) rfl (ci := 7) rfl rfl rfl rfl rfl hl.1 (Nat.le_of_ble_eq_true rfl) dX8_lose_2 ⟨Nat.zero_le _, Nat.zero_le _⟩ (fun hp1 H locs hP hS => ?_)
  refine W.eq (g2 := F0 m 5 ls [.ref (d_t_holders x1)]) (by rw [if_neg hd1]; rfl) ?_
  have h := it_n h hd1
  refine lv_astore_n (lv' := [(2, .ref (d_t_holders x1)), (0, .ref h_t), (1, .int p0)]) hx hb dX8_lose_5 rfl hl (by decide) rfl (fun ls hl => ?_)
  refine lv_aload_n hx hb dX8_lose_6 rfl (lv_at hl 0 rfl) ?_
  refine lv_ifnonnull (tgt := 12) hx hb dX8_lose_7 (by decide) ?_
  refine lv_aload_n hx hb dX8_lose_12 rfl (lv_at hl 0 rfl) ?_
  refine va_get (D := G) (fs := [.int (t_holders_sort x1), .long (t_holders_tree x1), .int (t_holders_limit x1), .ref (q_t_holders x1), .long (t_holders_above x1), .int (t_holders_size x1)]) (ci := 2) (v := .int (t_holders_sort x1)) (C := RX2) (T := TX2) (N := 6) hx hb hts hinX2 hown hK hP (2 + 2 * x1) (by obtain rfl | rfl | rfl | rfl | rfl | rfl := k_lt6 hb1 <;> rfl) rfl 0 (by decide) (hta _ mw_569) (fun _ h9 => h9) rfl dX8_lose_13 ?_
  refine lv_istore_n (lv' := [(3, .int (t_holders_sort x1)), (2, .ref (d_t_holders x1)), (0, .ref h_t), (1, .int p0)]) hx hb dX8_lose_16 rfl hl (by decide) rfl (fun ls hl => ?_)
  refine lv_aload_n hx hb dX8_lose_17 rfl (lv_at hl 1 rfl) ?_
  refine lv_iconst (v := (0 : Int32)) hx hb dX8_lose_18 (by decide) ?_
  refine va_put (D := G) (fs := [.int (t_holders_sort x1), .long (t_holders_tree x1), .int (t_holders_limit x1), .ref (q_t_holders x1), .long (t_holders_above x1), .int (t_holders_size x1)]) (ci := 2) (v := .int (0 : Int32)) (ty := .int) (C := RX2) (T := TX2) (N := 6) hx hb hts hinX2 tyX2 tyX2_ok nmX2 hown hK hP hD hS (2 + 2 * x1) (by obtain rfl | rfl | rfl | rfl | rfl | rfl := k_lt6 hb1 <;> rfl) rfl 0 (by decide) (hta _ mw_569) (fun _ h9 => h9) rfl (by decide +kernel) rfl rfl (Nat.le_of_ble_eq_true rfl) dX8_lose_19 (fun H locs hP hD hS => ?_)
  have he9 : ([(h_t, .inr (7, [.ref h_t_desk, .ref h_t_imageDesk, .ref h_t_deeds, .ref h_t_numbers, .ref h_t_tape, .ref h_t_reader, .ref h_t_speller, .ref h_t_holders, .int t_imageKept])), (h_t_holders, .inl (cH, 6, .inr (.inr (.inr (.inr (fun i => some (d_t_holders i))))))), ((d_t_holders 0), .inr (2, [.int (t_holders_sort 0), .long (t_holders_tree 0), .int (t_holders_limit 0), .ref (q_t_holders 0), .long (t_holders_above 0), .int (t_holders_size 0)])), ((q_t_holders 0), .inl (cI, 20, .inl (a_t_holders 0))), ((d_t_holders 1), .inr (2, [.int (t_holders_sort 1), .long (t_holders_tree 1), .int (t_holders_limit 1), .ref (q_t_holders 1), .long (t_holders_above 1), .int (t_holders_size 1)])), ((q_t_holders 1), .inl (cI, 20, .inl (a_t_holders 1))), ((d_t_holders 2), .inr (2, [.int (t_holders_sort 2), .long (t_holders_tree 2), .int (t_holders_limit 2), .ref (q_t_holders 2), .long (t_holders_above 2), .int (t_holders_size 2)])), ((q_t_holders 2), .inl (cI, 20, .inl (a_t_holders 2))), ((d_t_holders 3), .inr (2, [.int (t_holders_sort 3), .long (t_holders_tree 3), .int (t_holders_limit 3), .ref (q_t_holders 3), .long (t_holders_above 3), .int (t_holders_size 3)])), ((q_t_holders 3), .inl (cI, 20, .inl (a_t_holders 3))), ((d_t_holders 4), .inr (2, [.int (t_holders_sort 4), .long (t_holders_tree 4), .int (t_holders_limit 4), .ref (q_t_holders 4), .long (t_holders_above 4), .int (t_holders_size 4)])), ((q_t_holders 4), .inl (cI, 20, .inl (a_t_holders 4))), ((d_t_holders 5), .inr (2, [.int (t_holders_sort 5), .long (t_holders_tree 5), .int (t_holders_limit 5), .ref (q_t_holders 5), .long (t_holders_above 5), .int (t_holders_size 5)])), ((q_t_holders 5), .inl (cI, 20, .inl (a_t_holders 5)))] : va_W).set (2 + 2 * x1) ((d_t_holders x1), .inr (2, [.int (0 : Int32), .long (t_holders_tree x1), .int (t_holders_limit x1), .ref (q_t_holders x1), .long (t_holders_above x1), .int (t_holders_size x1)])) = [(h_t, .inr (7, [.ref h_t_desk, .ref h_t_imageDesk, .ref h_t_deeds, .ref h_t_numbers, .ref h_t_tape, .ref h_t_reader, .ref h_t_speller, .ref h_t_holders, .int t_imageKept])), (h_t_holders, .inl (cH, 6, .inr (.inr (.inr (.inr (fun i => some (d_t_holders i))))))), ((d_t_holders 0), .inr (2, [.int ((va_up t_holders_sort x1 (0 : Int32)) 0), .long (t_holders_tree 0), .int (t_holders_limit 0), .ref (q_t_holders 0), .long (t_holders_above 0), .int (t_holders_size 0)])), ((q_t_holders 0), .inl (cI, 20, .inl (a_t_holders 0))), ((d_t_holders 1), .inr (2, [.int ((va_up t_holders_sort x1 (0 : Int32)) 1), .long (t_holders_tree 1), .int (t_holders_limit 1), .ref (q_t_holders 1), .long (t_holders_above 1), .int (t_holders_size 1)])), ((q_t_holders 1), .inl (cI, 20, .inl (a_t_holders 1))), ((d_t_holders 2), .inr (2, [.int ((va_up t_holders_sort x1 (0 : Int32)) 2), .long (t_holders_tree 2), .int (t_holders_limit 2), .ref (q_t_holders 2), .long (t_holders_above 2), .int (t_holders_size 2)])), ((q_t_holders 2), .inl (cI, 20, .inl (a_t_holders 2))), ((d_t_holders 3), .inr (2, [.int ((va_up t_holders_sort x1 (0 : Int32)) 3), .long (t_holders_tree 3), .int (t_holders_limit 3), .ref (q_t_holders 3), .long (t_holders_above 3), .int (t_holders_size 3)])), ((q_t_holders 3), .inl (cI, 20, .inl (a_t_holders 3))), ((d_t_holders 4), .inr (2, [.int ((va_up t_holders_sort x1 (0 : Int32)) 4), .long (t_holders_tree 4), .int (t_holders_limit 4), .ref (q_t_holders 4), .long (t_holders_above 4), .int (t_holders_size 4)])), ((q_t_holders 4), .inl (cI, 20, .inl (a_t_holders 4))), ((d_t_holders 5), .inr (2, [.int ((va_up t_holders_sort x1 (0 : Int32)) 5), .long (t_holders_tree 5), .int (t_holders_limit 5), .ref (q_t_holders 5), .long (t_holders_above 5), .int (t_holders_size 5)])), ((q_t_holders 5), .inl (cI, 20, .inl (a_t_holders 5)))] := (by obtain rfl | rfl | rfl | rfl | rfl | rfl := k_lt6 hb1 <;> rfl)
  have hP : va_P G vwCl [(h_t, .inr (7, [.ref h_t_desk, .ref h_t_imageDesk, .ref h_t_deeds, .ref h_t_numbers, .ref h_t_tape, .ref h_t_reader, .ref h_t_speller, .ref h_t_holders, .int t_imageKept])), (h_t_holders, .inl (cH, 6, .inr (.inr (.inr (.inr (fun i => some (d_t_holders i))))))), ((d_t_holders 0), .inr (2, [.int ((va_up t_holders_sort x1 (0 : Int32)) 0), .long (t_holders_tree 0), .int (t_holders_limit 0), .ref (q_t_holders 0), .long (t_holders_above 0), .int (t_holders_size 0)])), ((q_t_holders 0), .inl (cI, 20, .inl (a_t_holders 0))), ((d_t_holders 1), .inr (2, [.int ((va_up t_holders_sort x1 (0 : Int32)) 1), .long (t_holders_tree 1), .int (t_holders_limit 1), .ref (q_t_holders 1), .long (t_holders_above 1), .int (t_holders_size 1)])), ((q_t_holders 1), .inl (cI, 20, .inl (a_t_holders 1))), ((d_t_holders 2), .inr (2, [.int ((va_up t_holders_sort x1 (0 : Int32)) 2), .long (t_holders_tree 2), .int (t_holders_limit 2), .ref (q_t_holders 2), .long (t_holders_above 2), .int (t_holders_size 2)])), ((q_t_holders 2), .inl (cI, 20, .inl (a_t_holders 2))), ((d_t_holders 3), .inr (2, [.int ((va_up t_holders_sort x1 (0 : Int32)) 3), .long (t_holders_tree 3), .int (t_holders_limit 3), .ref (q_t_holders 3), .long (t_holders_above 3), .int (t_holders_size 3)])), ((q_t_holders 3), .inl (cI, 20, .inl (a_t_holders 3))), ((d_t_holders 4), .inr (2, [.int ((va_up t_holders_sort x1 (0 : Int32)) 4), .long (t_holders_tree 4), .int (t_holders_limit 4), .ref (q_t_holders 4), .long (t_holders_above 4), .int (t_holders_size 4)])), ((q_t_holders 4), .inl (cI, 20, .inl (a_t_holders 4))), ((d_t_holders 5), .inr (2, [.int ((va_up t_holders_sort x1 (0 : Int32)) 5), .long (t_holders_tree 5), .int (t_holders_limit 5), .ref (q_t_holders 5), .long (t_holders_above 5), .int (t_holders_size 5)])), ((q_t_holders 5), .inl (cI, 20, .inl (a_t_holders 5)))] H := Eq.mp (congrArg (fun X9 => va_P G vwCl X9 H) he9) hP
  have hD : va_D A [(h_t, .inr (7, [.ref h_t_desk, .ref h_t_imageDesk, .ref h_t_deeds, .ref h_t_numbers, .ref h_t_tape, .ref h_t_reader, .ref h_t_speller, .ref h_t_holders, .int t_imageKept])), (h_t_holders, .inl (cH, 6, .inr (.inr (.inr (.inr (fun i => some (d_t_holders i))))))), ((d_t_holders 0), .inr (2, [.int ((va_up t_holders_sort x1 (0 : Int32)) 0), .long (t_holders_tree 0), .int (t_holders_limit 0), .ref (q_t_holders 0), .long (t_holders_above 0), .int (t_holders_size 0)])), ((q_t_holders 0), .inl (cI, 20, .inl (a_t_holders 0))), ((d_t_holders 1), .inr (2, [.int ((va_up t_holders_sort x1 (0 : Int32)) 1), .long (t_holders_tree 1), .int (t_holders_limit 1), .ref (q_t_holders 1), .long (t_holders_above 1), .int (t_holders_size 1)])), ((q_t_holders 1), .inl (cI, 20, .inl (a_t_holders 1))), ((d_t_holders 2), .inr (2, [.int ((va_up t_holders_sort x1 (0 : Int32)) 2), .long (t_holders_tree 2), .int (t_holders_limit 2), .ref (q_t_holders 2), .long (t_holders_above 2), .int (t_holders_size 2)])), ((q_t_holders 2), .inl (cI, 20, .inl (a_t_holders 2))), ((d_t_holders 3), .inr (2, [.int ((va_up t_holders_sort x1 (0 : Int32)) 3), .long (t_holders_tree 3), .int (t_holders_limit 3), .ref (q_t_holders 3), .long (t_holders_above 3), .int (t_holders_size 3)])), ((q_t_holders 3), .inl (cI, 20, .inl (a_t_holders 3))), ((d_t_holders 4), .inr (2, [.int ((va_up t_holders_sort x1 (0 : Int32)) 4), .long (t_holders_tree 4), .int (t_holders_limit 4), .ref (q_t_holders 4), .long (t_holders_above 4), .int (t_holders_size 4)])), ((q_t_holders 4), .inl (cI, 20, .inl (a_t_holders 4))), ((d_t_holders 5), .inr (2, [.int ((va_up t_holders_sort x1 (0 : Int32)) 5), .long (t_holders_tree 5), .int (t_holders_limit 5), .ref (q_t_holders 5), .long (t_holders_above 5), .int (t_holders_size 5)])), ((q_t_holders 5), .inl (cI, 20, .inl (a_t_holders 5)))] := Eq.mp (congrArg (fun X9 => va_D A X9) he9) hD
  have hP : va_P G vwCl [(h_t, .inr (7, [.ref h_t_desk, .ref h_t_imageDesk, .ref h_t_deeds, .ref h_t_numbers, .ref h_t_tape, .ref h_t_reader, .ref h_t_speller, .ref h_t_holders, .int t_imageKept])), (h_t_holders, .inl (cH, 6, .inr (.inr (.inr (.inr (fun i => some (d_t_holders i))))))), ((d_t_holders 0), .inr (2, [.int ((va_up t_holders_sort x1 (0 : Int32)) 0), .long (t_holders_tree 0), .int (t_holders_limit 0), .ref (q_t_holders 0), .long (t_holders_above 0), .int (t_holders_size 0)])), ((q_t_holders 0), .inl (cI, 20, .inl (a_t_holders 0))), ((d_t_holders 1), .inr (2, [.int ((va_up t_holders_sort x1 (0 : Int32)) 1), .long (t_holders_tree 1), .int (t_holders_limit 1), .ref (q_t_holders 1), .long (t_holders_above 1), .int (t_holders_size 1)])), ((q_t_holders 1), .inl (cI, 20, .inl (a_t_holders 1))), ((d_t_holders 2), .inr (2, [.int ((va_up t_holders_sort x1 (0 : Int32)) 2), .long (t_holders_tree 2), .int (t_holders_limit 2), .ref (q_t_holders 2), .long (t_holders_above 2), .int (t_holders_size 2)])), ((q_t_holders 2), .inl (cI, 20, .inl (a_t_holders 2))), ((d_t_holders 3), .inr (2, [.int ((va_up t_holders_sort x1 (0 : Int32)) 3), .long (t_holders_tree 3), .int (t_holders_limit 3), .ref (q_t_holders 3), .long (t_holders_above 3), .int (t_holders_size 3)])), ((q_t_holders 3), .inl (cI, 20, .inl (a_t_holders 3))), ((d_t_holders 4), .inr (2, [.int ((va_up t_holders_sort x1 (0 : Int32)) 4), .long (t_holders_tree 4), .int (t_holders_limit 4), .ref (q_t_holders 4), .long (t_holders_above 4), .int (t_holders_size 4)])), ((q_t_holders 4), .inl (cI, 20, .inl (a_t_holders 4))), ((d_t_holders 5), .inr (2, [.int ((va_up t_holders_sort x1 (0 : Int32)) 5), .long (t_holders_tree 5), .int (t_holders_limit 5), .ref (q_t_holders 5), .long (t_holders_above 5), .int (t_holders_size 5)])), ((q_t_holders 5), .inl (cI, 20, .inl (a_t_holders 5)))] H := hP
  have hD : va_D A [(h_t, .inr (7, [.ref h_t_desk, .ref h_t_imageDesk, .ref h_t_deeds, .ref h_t_numbers, .ref h_t_tape, .ref h_t_reader, .ref h_t_speller, .ref h_t_holders, .int t_imageKept])), (h_t_holders, .inl (cH, 6, .inr (.inr (.inr (.inr (fun i => some (d_t_holders i))))))), ((d_t_holders 0), .inr (2, [.int ((va_up t_holders_sort x1 (0 : Int32)) 0), .long (t_holders_tree 0), .int (t_holders_limit 0), .ref (q_t_holders 0), .long (t_holders_above 0), .int (t_holders_size 0)])), ((q_t_holders 0), .inl (cI, 20, .inl (a_t_holders 0))), ((d_t_holders 1), .inr (2, [.int ((va_up t_holders_sort x1 (0 : Int32)) 1), .long (t_holders_tree 1), .int (t_holders_limit 1), .ref (q_t_holders 1), .long (t_holders_above 1), .int (t_holders_size 1)])), ((q_t_holders 1), .inl (cI, 20, .inl (a_t_holders 1))), ((d_t_holders 2), .inr (2, [.int ((va_up t_holders_sort x1 (0 : Int32)) 2), .long (t_holders_tree 2), .int (t_holders_limit 2), .ref (q_t_holders 2), .long (t_holders_above 2), .int (t_holders_size 2)])), ((q_t_holders 2), .inl (cI, 20, .inl (a_t_holders 2))), ((d_t_holders 3), .inr (2, [.int ((va_up t_holders_sort x1 (0 : Int32)) 3), .long (t_holders_tree 3), .int (t_holders_limit 3), .ref (q_t_holders 3), .long (t_holders_above 3), .int (t_holders_size 3)])), ((q_t_holders 3), .inl (cI, 20, .inl (a_t_holders 3))), ((d_t_holders 4), .inr (2, [.int ((va_up t_holders_sort x1 (0 : Int32)) 4), .long (t_holders_tree 4), .int (t_holders_limit 4), .ref (q_t_holders 4), .long (t_holders_above 4), .int (t_holders_size 4)])), ((q_t_holders 4), .inl (cI, 20, .inl (a_t_holders 4))), ((d_t_holders 5), .inr (2, [.int ((va_up t_holders_sort x1 (0 : Int32)) 5), .long (t_holders_tree 5), .int (t_holders_limit 5), .ref (q_t_holders 5), .long (t_holders_above 5), .int (t_holders_size 5)])), ((q_t_holders 5), .inl (cI, 20, .inl (a_t_holders 5)))] := hD
  refine lv_iload_n hx hb dX8_lose_22 rfl (lv_at hl 0 rfl) ?_
  have h9 := Option.some.inj h
  have e9 : (t_holders_sort x1) = r0 := congrArg (fun z9 => z9.1) h9
  subst e9
  have e9 : (va_up t_holders_sort x1 (0 : Int32)) = w0 := congrArg (fun z9 => z9.2) h9
  subst e9
  exact k_iret hx hb hr hlocks hP hS rfl dX8_lose_23

/-! X8_taken -/
set_option maxHeartbeats 40000000 in
set_option maxRecDepth 100000 in
theorem c_X8_taken (l : Launch) (G : va_G) (cI cJ cD cH : ClassId) (sz : Nat) (h_t : Nat) (h_t_holders : Nat) (h_t_desk : Nat) (h_t_imageDesk : Nat) (h_t_deeds : Nat) (h_t_numbers : Nat) (h_t_tape : Nat) (h_t_reader : Nat) (h_t_speller : Nat) (d_t_holders : Nat → Nat) (q_t_holders : Nat → Nat) (a_t_holders : Nat → Nat → Int32) (t_holders_sort : Nat → Int32) (t_holders_tree : Nat → Int64) (t_holders_limit : Nat → Int32) (t_holders_above : Nat → Int64) (t_holders_size : Nat → Int32) (t_imageKept : Int32) (p0 : Int32) (p1 : Int32) (r0 : Int32) (hF : F_X8_taken t_holders_sort t_holders_tree t_holders_limit t_holders_above p0 p1 = some r0) : Met l yX8_taken wsX8_taken ({ frames := 4, cells := 0, slots := 0, locals := 83 }) (k_pre G (k_T cI cJ cD cH) [(h_t, .inr (7, [.ref h_t_desk, .ref h_t_imageDesk, .ref h_t_deeds, .ref h_t_numbers, .ref h_t_tape, .ref h_t_reader, .ref h_t_speller, .ref h_t_holders, .int t_imageKept])), (h_t_holders, .inl (cH, 6, .inr (.inr (.inr (.inr (fun i => some (d_t_holders i))))))), ((d_t_holders 0), .inr (2, [.int (t_holders_sort 0), .long (t_holders_tree 0), .int (t_holders_limit 0), .ref (q_t_holders 0), .long (t_holders_above 0), .int (t_holders_size 0)])), ((q_t_holders 0), .inl (cI, 20, .inl (a_t_holders 0))), ((d_t_holders 1), .inr (2, [.int (t_holders_sort 1), .long (t_holders_tree 1), .int (t_holders_limit 1), .ref (q_t_holders 1), .long (t_holders_above 1), .int (t_holders_size 1)])), ((q_t_holders 1), .inl (cI, 20, .inl (a_t_holders 1))), ((d_t_holders 2), .inr (2, [.int (t_holders_sort 2), .long (t_holders_tree 2), .int (t_holders_limit 2), .ref (q_t_holders 2), .long (t_holders_above 2), .int (t_holders_size 2)])), ((q_t_holders 2), .inl (cI, 20, .inl (a_t_holders 2))), ((d_t_holders 3), .inr (2, [.int (t_holders_sort 3), .long (t_holders_tree 3), .int (t_holders_limit 3), .ref (q_t_holders 3), .long (t_holders_above 3), .int (t_holders_size 3)])), ((q_t_holders 3), .inl (cI, 20, .inl (a_t_holders 3))), ((d_t_holders 4), .inr (2, [.int (t_holders_sort 4), .long (t_holders_tree 4), .int (t_holders_limit 4), .ref (q_t_holders 4), .long (t_holders_above 4), .int (t_holders_size 4)])), ((q_t_holders 4), .inl (cI, 20, .inl (a_t_holders 4))), ((d_t_holders 5), .inr (2, [.int (t_holders_sort 5), .long (t_holders_tree 5), .int (t_holders_limit 5), .ref (q_t_holders 5), .long (t_holders_above 5), .int (t_holders_size 5)])), ((q_t_holders 5), .inl (cI, 20, .inl (a_t_holders 5)))] sz [.ref h_t, .int p0, .int p1]) (va_Qi (fun r (_ : Unit) => r = r0 ∧ True) (fun _ t => va_P G vwCl [(h_t, .inr (7, [.ref h_t_desk, .ref h_t_imageDesk, .ref h_t_deeds, .ref h_t_numbers, .ref h_t_tape, .ref h_t_reader, .ref h_t_speller, .ref h_t_holders, .int t_imageKept])), (h_t_holders, .inl (cH, 6, .inr (.inr (.inr (.inr (fun i => some (d_t_holders i))))))), ((d_t_holders 0), .inr (2, [.int (t_holders_sort 0), .long (t_holders_tree 0), .int (t_holders_limit 0), .ref (q_t_holders 0), .long (t_holders_above 0), .int (t_holders_size 0)])), ((q_t_holders 0), .inl (cI, 20, .inl (a_t_holders 0))), ((d_t_holders 1), .inr (2, [.int (t_holders_sort 1), .long (t_holders_tree 1), .int (t_holders_limit 1), .ref (q_t_holders 1), .long (t_holders_above 1), .int (t_holders_size 1)])), ((q_t_holders 1), .inl (cI, 20, .inl (a_t_holders 1))), ((d_t_holders 2), .inr (2, [.int (t_holders_sort 2), .long (t_holders_tree 2), .int (t_holders_limit 2), .ref (q_t_holders 2), .long (t_holders_above 2), .int (t_holders_size 2)])), ((q_t_holders 2), .inl (cI, 20, .inl (a_t_holders 2))), ((d_t_holders 3), .inr (2, [.int (t_holders_sort 3), .long (t_holders_tree 3), .int (t_holders_limit 3), .ref (q_t_holders 3), .long (t_holders_above 3), .int (t_holders_size 3)])), ((q_t_holders 3), .inl (cI, 20, .inl (a_t_holders 3))), ((d_t_holders 4), .inr (2, [.int (t_holders_sort 4), .long (t_holders_tree 4), .int (t_holders_limit 4), .ref (q_t_holders 4), .long (t_holders_above 4), .int (t_holders_size 4)])), ((q_t_holders 4), .inl (cI, 20, .inl (a_t_holders 4))), ((d_t_holders 5), .inr (2, [.int (t_holders_sort 5), .long (t_holders_tree 5), .int (t_holders_limit 5), .ref (q_t_holders 5), .long (t_holders_above 5), .int (t_holders_size 5)])), ((q_t_holders 5), .inl (cI, 20, .inl (a_t_holders 5)))] t.heap) (va_A [(h_t, .inr (7, [.ref h_t_desk, .ref h_t_imageDesk, .ref h_t_deeds, .ref h_t_numbers, .ref h_t_tape, .ref h_t_reader, .ref h_t_speller, .ref h_t_holders, .int t_imageKept])), (h_t_holders, .inl (cH, 6, .inr (.inr (.inr (.inr (fun i => some (d_t_holders i))))))), ((d_t_holders 0), .inr (2, [.int (t_holders_sort 0), .long (t_holders_tree 0), .int (t_holders_limit 0), .ref (q_t_holders 0), .long (t_holders_above 0), .int (t_holders_size 0)])), ((q_t_holders 0), .inl (cI, 20, .inl (a_t_holders 0))), ((d_t_holders 1), .inr (2, [.int (t_holders_sort 1), .long (t_holders_tree 1), .int (t_holders_limit 1), .ref (q_t_holders 1), .long (t_holders_above 1), .int (t_holders_size 1)])), ((q_t_holders 1), .inl (cI, 20, .inl (a_t_holders 1))), ((d_t_holders 2), .inr (2, [.int (t_holders_sort 2), .long (t_holders_tree 2), .int (t_holders_limit 2), .ref (q_t_holders 2), .long (t_holders_above 2), .int (t_holders_size 2)])), ((q_t_holders 2), .inl (cI, 20, .inl (a_t_holders 2))), ((d_t_holders 3), .inr (2, [.int (t_holders_sort 3), .long (t_holders_tree 3), .int (t_holders_limit 3), .ref (q_t_holders 3), .long (t_holders_above 3), .int (t_holders_size 3)])), ((q_t_holders 3), .inl (cI, 20, .inl (a_t_holders 3))), ((d_t_holders 4), .inr (2, [.int (t_holders_sort 4), .long (t_holders_tree 4), .int (t_holders_limit 4), .ref (q_t_holders 4), .long (t_holders_above 4), .int (t_holders_size 4)])), ((q_t_holders 4), .inl (cI, 20, .inl (a_t_holders 4))), ((d_t_holders 5), .inr (2, [.int (t_holders_sort 5), .long (t_holders_tree 5), .int (t_holders_limit 5), .ref (q_t_holders 5), .long (t_holders_above 5), .int (t_holders_size 5)])), ((q_t_holders 5), .inl (cI, 20, .inl (a_t_holders 5)))] sz)) 0 0 (va_A [(h_t, .inr (7, [.ref h_t_desk, .ref h_t_imageDesk, .ref h_t_deeds, .ref h_t_numbers, .ref h_t_tape, .ref h_t_reader, .ref h_t_speller, .ref h_t_holders, .int t_imageKept])), (h_t_holders, .inl (cH, 6, .inr (.inr (.inr (.inr (fun i => some (d_t_holders i))))))), ((d_t_holders 0), .inr (2, [.int (t_holders_sort 0), .long (t_holders_tree 0), .int (t_holders_limit 0), .ref (q_t_holders 0), .long (t_holders_above 0), .int (t_holders_size 0)])), ((q_t_holders 0), .inl (cI, 20, .inl (a_t_holders 0))), ((d_t_holders 1), .inr (2, [.int (t_holders_sort 1), .long (t_holders_tree 1), .int (t_holders_limit 1), .ref (q_t_holders 1), .long (t_holders_above 1), .int (t_holders_size 1)])), ((q_t_holders 1), .inl (cI, 20, .inl (a_t_holders 1))), ((d_t_holders 2), .inr (2, [.int (t_holders_sort 2), .long (t_holders_tree 2), .int (t_holders_limit 2), .ref (q_t_holders 2), .long (t_holders_above 2), .int (t_holders_size 2)])), ((q_t_holders 2), .inl (cI, 20, .inl (a_t_holders 2))), ((d_t_holders 3), .inr (2, [.int (t_holders_sort 3), .long (t_holders_tree 3), .int (t_holders_limit 3), .ref (q_t_holders 3), .long (t_holders_above 3), .int (t_holders_size 3)])), ((q_t_holders 3), .inl (cI, 20, .inl (a_t_holders 3))), ((d_t_holders 4), .inr (2, [.int (t_holders_sort 4), .long (t_holders_tree 4), .int (t_holders_limit 4), .ref (q_t_holders 4), .long (t_holders_above 4), .int (t_holders_size 4)])), ((q_t_holders 4), .inl (cI, 20, .inl (a_t_holders 4))), ((d_t_holders 5), .inr (2, [.int (t_holders_sort 5), .long (t_holders_tree 5), .int (t_holders_limit 5), .ref (q_t_holders 5), .long (t_holders_above 5), .int (t_holders_size 5)])), ((q_t_holders 5), .inl (cI, 20, .inl (a_t_holders 5)))] sz) := by
  refine Met.ofW (cc := cX8_taken) (maxL := 4) (ret := (some .int)) (by decide) rfl ?_
  intro p e s m args below meth c s₁ B hml hv
  obtain ⟨rfl, hsz, hP, hK, hD0⟩ := hv
  have hx := B.exec
  have hb := B.bytes
  have hr := B.returns
  have hts := atoms_spec (ws := wsX8_taken) B.pre
  have hta : ∀ w ∈ wA, w.before ([.ref h_t, .int p0, .int p1] : List Value).toArray s = true := hta_of hts
  have hown : s.vm.findClass RX8 = some m.cls := findClass_of_methodNamed B.named
  have hlocks := B.notSynchronized
  subst hsz
  have hD := hD0.self (sz := s.heap.size)
  generalize hAe : va_A [(h_t, .inr (7, [.ref h_t_desk, .ref h_t_imageDesk, .ref h_t_deeds, .ref h_t_numbers, .ref h_t_tape, .ref h_t_reader, .ref h_t_speller, .ref h_t_holders, .int t_imageKept])), (h_t_holders, .inl (cH, 6, .inr (.inr (.inr (.inr (fun i => some (d_t_holders i))))))), ((d_t_holders 0), .inr (2, [.int (t_holders_sort 0), .long (t_holders_tree 0), .int (t_holders_limit 0), .ref (q_t_holders 0), .long (t_holders_above 0), .int (t_holders_size 0)])), ((q_t_holders 0), .inl (cI, 20, .inl (a_t_holders 0))), ((d_t_holders 1), .inr (2, [.int (t_holders_sort 1), .long (t_holders_tree 1), .int (t_holders_limit 1), .ref (q_t_holders 1), .long (t_holders_above 1), .int (t_holders_size 1)])), ((q_t_holders 1), .inl (cI, 20, .inl (a_t_holders 1))), ((d_t_holders 2), .inr (2, [.int (t_holders_sort 2), .long (t_holders_tree 2), .int (t_holders_limit 2), .ref (q_t_holders 2), .long (t_holders_above 2), .int (t_holders_size 2)])), ((q_t_holders 2), .inl (cI, 20, .inl (a_t_holders 2))), ((d_t_holders 3), .inr (2, [.int (t_holders_sort 3), .long (t_holders_tree 3), .int (t_holders_limit 3), .ref (q_t_holders 3), .long (t_holders_above 3), .int (t_holders_size 3)])), ((q_t_holders 3), .inl (cI, 20, .inl (a_t_holders 3))), ((d_t_holders 4), .inr (2, [.int (t_holders_sort 4), .long (t_holders_tree 4), .int (t_holders_limit 4), .ref (q_t_holders 4), .long (t_holders_above 4), .int (t_holders_size 4)])), ((q_t_holders 4), .inl (cI, 20, .inl (a_t_holders 4))), ((d_t_holders 5), .inr (2, [.int (t_holders_sort 5), .long (t_holders_tree 5), .int (t_holders_limit 5), .ref (q_t_holders 5), .long (t_holders_above 5), .int (t_holders_size 5)])), ((q_t_holders 5), .inl (cI, 20, .inl (a_t_holders 5)))] s.heap.size = A at hD ⊢
  have hA : ∀ q : Nat, s.heap.size ≤ q → A q := fun q h => by rw [← hAe]; exact Or.inr h
  have hS : va_S A s.heap s.heap [] := va_S.rf
  have hl := lv_entry ([.ref h_t, .int p0, .int p1]) (n := 4) (Nat.le_of_ble_eq_true rfl)
  rw [lg_entry_eq]
  generalize (lg_sl ([.ref h_t, .int p0, .int p1]) ++ List.replicate (4 - (lg_sl ([.ref h_t, .int p0, .int p1])).length) Slot.unset).toArray = ls at hl ⊢
  have hl : lv_has ls 4 [(0, .ref h_t), (1, .int p0), (2, .int p1)] := hl
  have hinX2 : ∀ w ∈ wsX20, w ∈ wsX8_taken := hin_of in_X2
  have h := hF
  unfold F_X8_taken at h
  refine lv_aload_n hx hb dX8_taken_0 rfl (lv_at hl 0 rfl) ?_
  refine lv_iload_n hx hb dX8_taken_1 rfl (lv_at hl 1 rfl) ?_
  obtain ⟨x1, hx1, h⟩ := bd_e h
  try dsimp only at h
  have hc1 := k_lt_X8_holderAt hx1
  by_cases hd1 : x1 = 6
  · subst hd1
    refine k_VqU (n := 1) (As := [.int p0]) (rest := []) hx hb hml hown hts (c_X8_holderAt l G cI cJ cD cH s.heap.size h_t h_t_holders h_t_desk h_t_imageDesk h_t_deeds h_t_numbers h_t_tape h_t_reader h_t_speller d_t_holders q_t_holders a_t_holders t_holders_sort t_holders_tree t_holders_limit t_holders_above t_holders_size t_imageKept p0 6 hx1) gX8_taken_X8_holderAt rfl rfl rfl (by decide +kernel) ⟨by first | exact Nat.le_of_ble_eq_true rfl | (simp only [headSpec]; omega), by first | exact Nat.le_of_ble_eq_true rfl | (simp only [headSpec]; omega)⟩ hK hP hD hS hA [0, 1, 2, 3, 4, 5, 6, 7, 8, 9, 10, 11, 12, 13] (by decide) rfl (ci := 7) rfl rfl rfl rfl rfl hl.1 (Nat.le_of_ble_eq_true rfl) dX8_taken_2 ⟨Nat.zero_le _, Nat.zero_le _⟩ (fun hp1 H locs hP hS => ?_)
    refine W.eq (g2 := F0 m 5 ls [.null]) rfl ?_
    have h := it_p h rfl
    refine lv_astore_nN (lv' := [(3, .null), (0, .ref h_t), (1, .int p0), (2, .int p1)]) hx hb dX8_taken_5 rfl hl (by decide) rfl (fun ls hl => ?_)
    refine lv_aload_nN hx hb dX8_taken_6 rfl (lv_at hl 0 rfl) ?_
    refine lv_ifnullN (tgt := 19) hx hb dX8_taken_7 (by decide) ?_
    refine lv_iconst (v := (-1 : Int32)) hx hb dX8_taken_19 (by decide) ?_
    have h9 := Option.some.inj h
    have e9 : (-1 : Int32) = r0 := congrArg (fun z9 => z9) h9
    subst e9
    exact k_iret hx hb hr hlocks hP hS rfl dX8_taken_20
  have hb1 : x1 < 6 := by omega
  refine k_VqU (n := 1) (As := [.int p0]) (rest := []) hx hb hml hown hts (c_X8_holderAt l G cI cJ cD cH s.heap.size h_t h_t_holders h_t_desk h_t_imageDesk h_t_deeds h_t_numbers h_t_tape h_t_reader h_t_speller d_t_holders q_t_holders a_t_holders t_holders_sort t_holders_tree t_holders_limit t_holders_above t_holders_size t_imageKept p0 x1 hx1) gX8_taken_X8_holderAt rfl rfl rfl (by decide +kernel) ⟨by first | exact Nat.le_of_ble_eq_true rfl | (simp only [headSpec]; omega), by first | exact Nat.le_of_ble_eq_true rfl | (simp only [headSpec]; omega)⟩ hK hP hD hS hA [0, 1, 2, 3, 4, 5, 6, 7, 8, 9, 10, 11, 12, 13] (by decide) rfl (ci := 7) rfl rfl rfl rfl rfl hl.1 (Nat.le_of_ble_eq_true rfl) dX8_taken_2 ⟨Nat.zero_le _, Nat.zero_le _⟩ (fun hp1 H locs hP hS => ?_)
  refine W.eq (g2 := F0 m 5 ls [.ref (d_t_holders x1)]) (by rw [if_neg hd1]; rfl) ?_
  have h := it_n h hd1
  refine lv_astore_n (lv' := [(3, .ref (d_t_holders x1)), (0, .ref h_t), (1, .int p0), (2, .int p1)]) hx hb dX8_taken_5 rfl hl (by decide) rfl (fun ls hl => ?_)
  refine lv_aload_n hx hb dX8_taken_6 rfl (lv_at hl 0 rfl) ?_
  refine lv_ifnull hx hb dX8_taken_7 ?_
  refine lv_iload_n hx hb dX8_taken_10 rfl (lv_at hl 3 rfl) ?_
  refine lv_if_lt (tgt := 19) hx hb dX8_taken_11 (by decide) (fun c2 => ?_) (fun c2 => ?_)
  · have h := it_p h c2
    refine lv_iconst (v := (-1 : Int32)) hx hb dX8_taken_19 (by decide) ?_
    have h9 := Option.some.inj h
    have e9 : (-1 : Int32) = r0 := congrArg (fun z9 => z9) h9
    subst e9
    exact k_iret hx hb hr hlocks hP hS rfl dX8_taken_20
  have h := it_n h c2
  refine lv_iload_n hx hb dX8_taken_14 rfl (lv_at hl 3 rfl) ?_
  refine lv_iconst (v := (3 : Int32)) hx hb dX8_taken_15 (by decide) ?_
  refine lv_icmp_le (tgt := 21) hx hb dX8_taken_16 (by decide) (fun c3 => ?_) (fun c3 => ?_)
  rotate_left
  · have h := it_n h c3
    refine lv_iconst (v := (-1 : Int32)) hx hb dX8_taken_19 (by decide) ?_
    have h9 := Option.some.inj h
    have e9 : (-1 : Int32) = r0 := congrArg (fun z9 => z9) h9
    subst e9
    exact k_iret hx hb hr hlocks hP hS rfl dX8_taken_20
  have h := it_p h c3
  refine lv_aload_n hx hb dX8_taken_21 rfl (lv_at hl 0 rfl) ?_
  refine va_get (D := G) (fs := [.int (t_holders_sort x1), .long (t_holders_tree x1), .int (t_holders_limit x1), .ref (q_t_holders x1), .long (t_holders_above x1), .int (t_holders_size x1)]) (ci := 2) (v := .int (t_holders_sort x1)) (C := RX2) (T := TX2) (N := 6) hx hb hts hinX2 hown hK hP (2 + 2 * x1) (by obtain rfl | rfl | rfl | rfl | rfl | rfl := k_lt6 hb1 <;> rfl) rfl 0 (by decide) (hta _ mw_569) (fun _ h9 => h9) rfl dX8_taken_22 ?_
  refine lv_if_ne (tgt := 31) hx hb dX8_taken_25 (by decide) (fun c4 => ?_) (fun c4 => ?_)
  rotate_left
  · have h := it_p h c4
    refine lv_bipush (v := (-11 : Int32)) hx hb dX8_taken_28 (by decide) ?_
    have h9 := Option.some.inj h
    have e9 : (-11 : Int32) = r0 := congrArg (fun z9 => z9) h9
    subst e9
    exact k_iret hx hb hr hlocks hP hS rfl dX8_taken_30
  have h := it_n h c4
  refine lv_aload_n hx hb dX8_taken_31 rfl (lv_at hl 0 rfl) ?_
  refine lv_iload_n hx hb dX8_taken_32 rfl (lv_at hl 3 rfl) ?_
  obtain ⟨x5, hx5, h⟩ := bd_e h
  try dsimp only at h
  refine k_ViU (n := 1) (As := [.int p1]) (rest := []) hx hb hml hown hts (c_X2_isOfKind l G cI cJ cD cH H.size (d_t_holders x1) (q_t_holders x1) (t_holders_sort x1) (t_holders_tree x1) (t_holders_limit x1) (t_holders_above x1) (t_holders_size x1) p1 x5 hx5) gX8_taken_X2_isOfKind rfl rfl rfl (by decide +kernel) ⟨by first | exact Nat.le_of_ble_eq_true rfl | (simp only [headSpec]; omega), by first | exact Nat.le_of_ble_eq_true rfl | (simp only [headSpec]; omega)⟩ hK hP hD hS hA [(2 + 2 * x1)] (by obtain rfl | rfl | rfl | rfl | rfl | rfl := k_lt6 hb1 <;> decide) (by obtain rfl | rfl | rfl | rfl | rfl | rfl := k_lt6 hb1 <;> rfl) (ci := 2) rfl rfl rfl rfl rfl hl.1 (Nat.le_of_ble_eq_true rfl) dX8_taken_33 ⟨Nat.zero_le _, Nat.zero_le _⟩ (fun hp5 H locs hP hS => ?_)
  refine lv_if_eq (tgt := 47) hx hb dX8_taken_36 (by decide) (fun c6 => ?_) (fun c6 => ?_)
  · have h := it_p h c6
    refine lv_bipush (v := (-12 : Int32)) hx hb dX8_taken_47 (by decide) ?_
    have h9 := Option.some.inj h
    have e9 : (-12 : Int32) = r0 := congrArg (fun z9 => z9) h9
    subst e9
    exact k_iret hx hb hr hlocks hP hS rfl dX8_taken_49
  have h := it_n h c6
  refine lv_aload_n hx hb dX8_taken_39 rfl (lv_at hl 0 rfl) ?_
  refine lv_iload_n hx hb dX8_taken_40 rfl (lv_at hl 3 rfl) ?_
  obtain ⟨x7, hx7, h⟩ := bd_e h
  try dsimp only at h
  refine k_ViU (n := 1) (As := [.int p1]) (rest := []) hx hb hml hown hts (c_X2_takenFor l G cI cJ cD cH H.size (d_t_holders x1) (q_t_holders x1) (t_holders_sort x1) (t_holders_tree x1) (t_holders_limit x1) (t_holders_above x1) (t_holders_size x1) p1 x7 hx7) gX8_taken_X2_takenFor rfl rfl rfl (by decide +kernel) ⟨by first | exact Nat.le_of_ble_eq_true rfl | (simp only [headSpec]; omega), by first | exact Nat.le_of_ble_eq_true rfl | (simp only [headSpec]; omega)⟩ hK hP hD hS hA [(2 + 2 * x1)] (by obtain rfl | rfl | rfl | rfl | rfl | rfl := k_lt6 hb1 <;> decide) (by obtain rfl | rfl | rfl | rfl | rfl | rfl := k_lt6 hb1 <;> rfl) (ci := 2) rfl rfl rfl rfl rfl hl.1 (Nat.le_of_ble_eq_true rfl) dX8_taken_41 ⟨Nat.zero_le _, Nat.zero_le _⟩ (fun hp7 H locs hP hS => ?_)
  refine lv_goto (tgt := 49) hx hb dX8_taken_44 (by decide) ?_
  have h9 := Option.some.inj h
  have e9 : x7 = r0 := congrArg (fun z9 => z9) h9
  subst e9
  exact k_iret hx hb hr hlocks hP hS rfl dX8_taken_49

/-! X8_refusalOfN -/
set_option maxHeartbeats 4000000 in
set_option maxRecDepth 100000 in
theorem c_X8_refusalOfN (l : Launch) (G : va_G) (cI cJ cD cH : ClassId) (sz : Nat) (p1 : Int32) (r0 : Int32) (hF : F_X8_refusalOfN  = some r0) : Met l yX8_refusalOf wsX8_refusalOf ({ frames := 0, cells := 0, slots := 0, locals := 0 }) (k_pre G (k_T cI cJ cD cH) [] sz [.null, .int p1]) (va_Qi (fun r (_ : Unit) => r = r0 ∧ True) (fun _ t => va_P G vwCl [] t.heap) (va_A [] sz)) 0 0 (va_A [] sz) := by
  refine Met.ofW (cc := cX8_refusalOf) (maxL := 2) (ret := (some .int)) (by decide) rfl ?_
  intro p e s m args below meth c s₁ B hml hv
  obtain ⟨rfl, hsz, hP, hK, hD0⟩ := hv
  have hx := B.exec
  have hb := B.bytes
  have hr := B.returns
  have hts := atoms_spec (ws := wsX8_refusalOf) B.pre
  have hta : ∀ w ∈ wA, w.before ([.null, .int p1] : List Value).toArray s = true := hta_of hts
  have hown : s.vm.findClass RX8 = some m.cls := findClass_of_methodNamed B.named
  have hlocks := B.notSynchronized
  subst hsz
  have hD := hD0.self (sz := s.heap.size)
  generalize hAe : va_A [] s.heap.size = A at hD ⊢
  have hA : ∀ q : Nat, s.heap.size ≤ q → A q := fun q h => by rw [← hAe]; exact Or.inr h
  have hS : va_S A s.heap s.heap [] := va_S.rf
  have hl := lv_entry ([.null, .int p1]) (n := 2) (Nat.le_of_ble_eq_true rfl)
  rw [lg_entry_eq]
  generalize (lg_sl ([.null, .int p1]) ++ List.replicate (2 - (lg_sl ([.null, .int p1])).length) Slot.unset).toArray = ls at hl ⊢
  have hl : lv_has ls 2 [(0, .null), (1, .int p1)] := hl
  have h := hF
  unfold F_X8_refusalOfN at h
  refine lv_aload_nN hx hb dX8_refusalOf_0 rfl (lv_at hl 0 rfl) ?_
  refine lv_ifnonnullN hx hb dX8_refusalOf_1 ?_
  refine lv_iconst (v := (-1 : Int32)) hx hb dX8_refusalOf_4 (by decide) ?_
  have h9 := Option.some.inj h
  have e9 : (-1 : Int32) = r0 := congrArg (fun z9 => z9) h9
  subst e9
  exact k_iret hx hb hr hlocks hP hS rfl dX8_refusalOf_5

/-! X8_refusalOf -/
set_option maxHeartbeats 4000000 in
set_option maxRecDepth 100000 in
theorem c_X8_refusalOf (l : Launch) (G : va_G) (cI cJ cD cH : ClassId) (sz : Nat) (h_p0 : Nat) (h_p0_ints : Nat) (p0_sort : Int32) (p0_tree : Int64) (p0_limit : Int32) (p0_above : Int64) (p0_size : Int32) (p1 : Int32) (r0 : Int32) (hF : F_X8_refusalOf p0_sort p1 = some r0) : Met l yX8_refusalOf wsX8_refusalOf ({ frames := 0, cells := 0, slots := 0, locals := 0 }) (k_pre G (k_T cI cJ cD cH) [(h_p0, .inr (2, [.int p0_sort, .long p0_tree, .int p0_limit, .ref h_p0_ints, .long p0_above, .int p0_size]))] sz [.ref h_p0, .int p1]) (va_Qi (fun r (_ : Unit) => r = r0 ∧ True) (fun _ t => va_P G vwCl [(h_p0, .inr (2, [.int p0_sort, .long p0_tree, .int p0_limit, .ref h_p0_ints, .long p0_above, .int p0_size]))] t.heap) (va_A [(h_p0, .inr (2, [.int p0_sort, .long p0_tree, .int p0_limit, .ref h_p0_ints, .long p0_above, .int p0_size]))] sz)) 0 0 (va_A [(h_p0, .inr (2, [.int p0_sort, .long p0_tree, .int p0_limit, .ref h_p0_ints, .long p0_above, .int p0_size]))] sz) := by
  refine Met.ofW (cc := cX8_refusalOf) (maxL := 2) (ret := (some .int)) (by decide) rfl ?_
  intro p e s m args below meth c s₁ B hml hv
  obtain ⟨rfl, hsz, hP, hK, hD0⟩ := hv
  have hx := B.exec
  have hb := B.bytes
  have hr := B.returns
  have hts := atoms_spec (ws := wsX8_refusalOf) B.pre
  have hta : ∀ w ∈ wA, w.before ([.ref h_p0, .int p1] : List Value).toArray s = true := hta_of hts
  have hown : s.vm.findClass RX8 = some m.cls := findClass_of_methodNamed B.named
  have hlocks := B.notSynchronized
  subst hsz
  have hD := hD0.self (sz := s.heap.size)
  generalize hAe : va_A [(h_p0, .inr (2, [.int p0_sort, .long p0_tree, .int p0_limit, .ref h_p0_ints, .long p0_above, .int p0_size]))] s.heap.size = A at hD ⊢
  have hA : ∀ q : Nat, s.heap.size ≤ q → A q := fun q h => by rw [← hAe]; exact Or.inr h
  have hS : va_S A s.heap s.heap [] := va_S.rf
  have hl := lv_entry ([.ref h_p0, .int p1]) (n := 2) (Nat.le_of_ble_eq_true rfl)
  rw [lg_entry_eq]
  generalize (lg_sl ([.ref h_p0, .int p1]) ++ List.replicate (2 - (lg_sl ([.ref h_p0, .int p1])).length) Slot.unset).toArray = ls at hl ⊢
  have hl : lv_has ls 2 [(0, .ref h_p0), (1, .int p1)] := hl
  have hinX2 : ∀ w ∈ wsX20, w ∈ wsX8_refusalOf := hin_of in_X2
  have h := hF
  unfold F_X8_refusalOf at h
  refine lv_aload_n hx hb dX8_refusalOf_0 rfl (lv_at hl 0 rfl) ?_
  refine lv_ifnonnull (tgt := 6) hx hb dX8_refusalOf_1 (by decide) ?_
  refine lv_aload_n hx hb dX8_refusalOf_6 rfl (lv_at hl 0 rfl) ?_
  refine va_get (D := G) (ci := 2) (v := .int p0_sort) (C := RX2) (T := TX2) (N := 6) hx hb hts hinX2 hown hK hP 0 rfl rfl 0 (by decide) (hta _ mw_569) (fun _ h9 => h9) rfl dX8_refusalOf_7 ?_
  refine lv_if_ne (tgt := 16) hx hb dX8_refusalOf_10 (by decide) (fun c1 => ?_) (fun c1 => ?_)
  rotate_left
  · have h := it_p h c1
    refine lv_bipush (v := (-11 : Int32)) hx hb dX8_refusalOf_13 (by decide) ?_
    have h9 := Option.some.inj h
    have e9 : (-11 : Int32) = r0 := congrArg (fun z9 => z9) h9
    subst e9
    exact k_iret hx hb hr hlocks hP hS rfl dX8_refusalOf_15
  have h := it_n h c1
  refine lv_aload_n hx hb dX8_refusalOf_16 rfl (lv_at hl 0 rfl) ?_
  refine va_get (D := G) (ci := 2) (v := .int p0_sort) (C := RX2) (T := TX2) (N := 6) hx hb hts hinX2 hown hK hP 0 rfl rfl 0 (by decide) (hta _ mw_569) (fun _ h9 => h9) rfl dX8_refusalOf_17 ?_
  refine lv_iload_n hx hb dX8_refusalOf_20 rfl (lv_at hl 1 rfl) ?_
  refine lv_icmp_ne (tgt := 28) hx hb dX8_refusalOf_21 (by decide) (fun c2 => ?_) (fun c2 => ?_)
  · have h := it_n h c2
    refine lv_bipush (v := (-12 : Int32)) hx hb dX8_refusalOf_28 (by decide) ?_
    have h9 := Option.some.inj h
    have e9 : (-12 : Int32) = r0 := congrArg (fun z9 => z9) h9
    subst e9
    exact k_iret hx hb hr hlocks hP hS rfl dX8_refusalOf_30
  have h := it_p h c2
  refine lv_iconst (v := (0 : Int32)) hx hb dX8_refusalOf_24 (by decide) ?_
  refine lv_goto (tgt := 30) hx hb dX8_refusalOf_25 (by decide) ?_
  have h9 := Option.some.inj h
  have e9 : (0 : Int32) = r0 := congrArg (fun z9 => z9) h9
  subst e9
  exact k_iret hx hb hr hlocks hP hS rfl dX8_refusalOf_30

/-! X8_common -/
set_option maxHeartbeats 40000000 in
set_option maxRecDepth 100000 in
theorem c_X8_common (l : Launch) (G : va_G) (cI cJ cD cH : ClassId) (sz : Nat) (h_t : Nat) (h_t_holders : Nat) (h_t_desk : Nat) (h_t_imageDesk : Nat) (h_t_deeds : Nat) (h_t_numbers : Nat) (h_t_tape : Nat) (h_t_reader : Nat) (h_t_speller : Nat) (h_t_desk_powers : Nat) (d_t_holders : Nat → Nat) (q_t_holders : Nat → Nat) (a_t_holders : Nat → Nat → Int32) (t_holders_sort : Nat → Int32) (t_holders_tree : Nat → Int64) (t_holders_limit : Nat → Int32) (t_holders_above : Nat → Int64) (t_holders_size : Nat → Int32) (t_imageKept : Int32) (t_desk_genus : Int32) (t_desk_size : Int32) (t_desk_limit : Int32) (t_desk_tree : Int64) (p0 : Int32) (r0 : Int32) (hF : F_X8_common t_holders_sort t_holders_tree t_holders_limit t_desk_limit t_desk_tree p0 = some r0) : Met l yX8_common wsX8_common ({ frames := 2, cells := 0, slots := 0, locals := 42 }) (k_pre G (k_T cI cJ cD cH) [(h_t, .inr (7, [.ref h_t_desk, .ref h_t_imageDesk, .ref h_t_deeds, .ref h_t_numbers, .ref h_t_tape, .ref h_t_reader, .ref h_t_speller, .ref h_t_holders, .int t_imageKept])), (h_t_holders, .inl (cH, 6, .inr (.inr (.inr (.inr (fun i => some (d_t_holders i))))))), ((d_t_holders 0), .inr (2, [.int (t_holders_sort 0), .long (t_holders_tree 0), .int (t_holders_limit 0), .ref (q_t_holders 0), .long (t_holders_above 0), .int (t_holders_size 0)])), ((q_t_holders 0), .inl (cI, 20, .inl (a_t_holders 0))), ((d_t_holders 1), .inr (2, [.int (t_holders_sort 1), .long (t_holders_tree 1), .int (t_holders_limit 1), .ref (q_t_holders 1), .long (t_holders_above 1), .int (t_holders_size 1)])), ((q_t_holders 1), .inl (cI, 20, .inl (a_t_holders 1))), ((d_t_holders 2), .inr (2, [.int (t_holders_sort 2), .long (t_holders_tree 2), .int (t_holders_limit 2), .ref (q_t_holders 2), .long (t_holders_above 2), .int (t_holders_size 2)])), ((q_t_holders 2), .inl (cI, 20, .inl (a_t_holders 2))), ((d_t_holders 3), .inr (2, [.int (t_holders_sort 3), .long (t_holders_tree 3), .int (t_holders_limit 3), .ref (q_t_holders 3), .long (t_holders_above 3), .int (t_holders_size 3)])), ((q_t_holders 3), .inl (cI, 20, .inl (a_t_holders 3))), ((d_t_holders 4), .inr (2, [.int (t_holders_sort 4), .long (t_holders_tree 4), .int (t_holders_limit 4), .ref (q_t_holders 4), .long (t_holders_above 4), .int (t_holders_size 4)])), ((q_t_holders 4), .inl (cI, 20, .inl (a_t_holders 4))), ((d_t_holders 5), .inr (2, [.int (t_holders_sort 5), .long (t_holders_tree 5), .int (t_holders_limit 5), .ref (q_t_holders 5), .long (t_holders_above 5), .int (t_holders_size 5)])), ((q_t_holders 5), .inl (cI, 20, .inl (a_t_holders 5))), (h_t_desk, .inr (1, [.int t_desk_genus, .int t_desk_size, .ref h_t_desk_powers, .int t_desk_limit, .long t_desk_tree]))] sz [.ref h_t, .int p0]) (va_Qi (fun r (_ : Unit) => r = r0 ∧ True) (fun _ t => va_P G vwCl [(h_t, .inr (7, [.ref h_t_desk, .ref h_t_imageDesk, .ref h_t_deeds, .ref h_t_numbers, .ref h_t_tape, .ref h_t_reader, .ref h_t_speller, .ref h_t_holders, .int t_imageKept])), (h_t_holders, .inl (cH, 6, .inr (.inr (.inr (.inr (fun i => some (d_t_holders i))))))), ((d_t_holders 0), .inr (2, [.int (t_holders_sort 0), .long (t_holders_tree 0), .int (t_holders_limit 0), .ref (q_t_holders 0), .long (t_holders_above 0), .int (t_holders_size 0)])), ((q_t_holders 0), .inl (cI, 20, .inl (a_t_holders 0))), ((d_t_holders 1), .inr (2, [.int (t_holders_sort 1), .long (t_holders_tree 1), .int (t_holders_limit 1), .ref (q_t_holders 1), .long (t_holders_above 1), .int (t_holders_size 1)])), ((q_t_holders 1), .inl (cI, 20, .inl (a_t_holders 1))), ((d_t_holders 2), .inr (2, [.int (t_holders_sort 2), .long (t_holders_tree 2), .int (t_holders_limit 2), .ref (q_t_holders 2), .long (t_holders_above 2), .int (t_holders_size 2)])), ((q_t_holders 2), .inl (cI, 20, .inl (a_t_holders 2))), ((d_t_holders 3), .inr (2, [.int (t_holders_sort 3), .long (t_holders_tree 3), .int (t_holders_limit 3), .ref (q_t_holders 3), .long (t_holders_above 3), .int (t_holders_size 3)])), ((q_t_holders 3), .inl (cI, 20, .inl (a_t_holders 3))), ((d_t_holders 4), .inr (2, [.int (t_holders_sort 4), .long (t_holders_tree 4), .int (t_holders_limit 4), .ref (q_t_holders 4), .long (t_holders_above 4), .int (t_holders_size 4)])), ((q_t_holders 4), .inl (cI, 20, .inl (a_t_holders 4))), ((d_t_holders 5), .inr (2, [.int (t_holders_sort 5), .long (t_holders_tree 5), .int (t_holders_limit 5), .ref (q_t_holders 5), .long (t_holders_above 5), .int (t_holders_size 5)])), ((q_t_holders 5), .inl (cI, 20, .inl (a_t_holders 5))), (h_t_desk, .inr (1, [.int t_desk_genus, .int t_desk_size, .ref h_t_desk_powers, .int t_desk_limit, .long t_desk_tree]))] t.heap) (va_A [(h_t, .inr (7, [.ref h_t_desk, .ref h_t_imageDesk, .ref h_t_deeds, .ref h_t_numbers, .ref h_t_tape, .ref h_t_reader, .ref h_t_speller, .ref h_t_holders, .int t_imageKept])), (h_t_holders, .inl (cH, 6, .inr (.inr (.inr (.inr (fun i => some (d_t_holders i))))))), ((d_t_holders 0), .inr (2, [.int (t_holders_sort 0), .long (t_holders_tree 0), .int (t_holders_limit 0), .ref (q_t_holders 0), .long (t_holders_above 0), .int (t_holders_size 0)])), ((q_t_holders 0), .inl (cI, 20, .inl (a_t_holders 0))), ((d_t_holders 1), .inr (2, [.int (t_holders_sort 1), .long (t_holders_tree 1), .int (t_holders_limit 1), .ref (q_t_holders 1), .long (t_holders_above 1), .int (t_holders_size 1)])), ((q_t_holders 1), .inl (cI, 20, .inl (a_t_holders 1))), ((d_t_holders 2), .inr (2, [.int (t_holders_sort 2), .long (t_holders_tree 2), .int (t_holders_limit 2), .ref (q_t_holders 2), .long (t_holders_above 2), .int (t_holders_size 2)])), ((q_t_holders 2), .inl (cI, 20, .inl (a_t_holders 2))), ((d_t_holders 3), .inr (2, [.int (t_holders_sort 3), .long (t_holders_tree 3), .int (t_holders_limit 3), .ref (q_t_holders 3), .long (t_holders_above 3), .int (t_holders_size 3)])), ((q_t_holders 3), .inl (cI, 20, .inl (a_t_holders 3))), ((d_t_holders 4), .inr (2, [.int (t_holders_sort 4), .long (t_holders_tree 4), .int (t_holders_limit 4), .ref (q_t_holders 4), .long (t_holders_above 4), .int (t_holders_size 4)])), ((q_t_holders 4), .inl (cI, 20, .inl (a_t_holders 4))), ((d_t_holders 5), .inr (2, [.int (t_holders_sort 5), .long (t_holders_tree 5), .int (t_holders_limit 5), .ref (q_t_holders 5), .long (t_holders_above 5), .int (t_holders_size 5)])), ((q_t_holders 5), .inl (cI, 20, .inl (a_t_holders 5))), (h_t_desk, .inr (1, [.int t_desk_genus, .int t_desk_size, .ref h_t_desk_powers, .int t_desk_limit, .long t_desk_tree]))] sz)) 0 0 (va_A [(h_t, .inr (7, [.ref h_t_desk, .ref h_t_imageDesk, .ref h_t_deeds, .ref h_t_numbers, .ref h_t_tape, .ref h_t_reader, .ref h_t_speller, .ref h_t_holders, .int t_imageKept])), (h_t_holders, .inl (cH, 6, .inr (.inr (.inr (.inr (fun i => some (d_t_holders i))))))), ((d_t_holders 0), .inr (2, [.int (t_holders_sort 0), .long (t_holders_tree 0), .int (t_holders_limit 0), .ref (q_t_holders 0), .long (t_holders_above 0), .int (t_holders_size 0)])), ((q_t_holders 0), .inl (cI, 20, .inl (a_t_holders 0))), ((d_t_holders 1), .inr (2, [.int (t_holders_sort 1), .long (t_holders_tree 1), .int (t_holders_limit 1), .ref (q_t_holders 1), .long (t_holders_above 1), .int (t_holders_size 1)])), ((q_t_holders 1), .inl (cI, 20, .inl (a_t_holders 1))), ((d_t_holders 2), .inr (2, [.int (t_holders_sort 2), .long (t_holders_tree 2), .int (t_holders_limit 2), .ref (q_t_holders 2), .long (t_holders_above 2), .int (t_holders_size 2)])), ((q_t_holders 2), .inl (cI, 20, .inl (a_t_holders 2))), ((d_t_holders 3), .inr (2, [.int (t_holders_sort 3), .long (t_holders_tree 3), .int (t_holders_limit 3), .ref (q_t_holders 3), .long (t_holders_above 3), .int (t_holders_size 3)])), ((q_t_holders 3), .inl (cI, 20, .inl (a_t_holders 3))), ((d_t_holders 4), .inr (2, [.int (t_holders_sort 4), .long (t_holders_tree 4), .int (t_holders_limit 4), .ref (q_t_holders 4), .long (t_holders_above 4), .int (t_holders_size 4)])), ((q_t_holders 4), .inl (cI, 20, .inl (a_t_holders 4))), ((d_t_holders 5), .inr (2, [.int (t_holders_sort 5), .long (t_holders_tree 5), .int (t_holders_limit 5), .ref (q_t_holders 5), .long (t_holders_above 5), .int (t_holders_size 5)])), ((q_t_holders 5), .inl (cI, 20, .inl (a_t_holders 5))), (h_t_desk, .inr (1, [.int t_desk_genus, .int t_desk_size, .ref h_t_desk_powers, .int t_desk_limit, .long t_desk_tree]))] sz) := by
  refine Met.ofW (cc := cX8_common) (maxL := 4) (ret := (some .int)) (by decide) rfl ?_
  intro p e s m args below meth c s₁ B hml hv
  obtain ⟨rfl, hsz, hP, hK, hD0⟩ := hv
  have hx := B.exec
  have hb := B.bytes
  have hr := B.returns
  have hts := atoms_spec (ws := wsX8_common) B.pre
  have hta : ∀ w ∈ wA, w.before ([.ref h_t, .int p0] : List Value).toArray s = true := hta_of hts
  have hown : s.vm.findClass RX8 = some m.cls := findClass_of_methodNamed B.named
  have hlocks := B.notSynchronized
  subst hsz
  have hD := hD0.self (sz := s.heap.size)
  generalize hAe : va_A [(h_t, .inr (7, [.ref h_t_desk, .ref h_t_imageDesk, .ref h_t_deeds, .ref h_t_numbers, .ref h_t_tape, .ref h_t_reader, .ref h_t_speller, .ref h_t_holders, .int t_imageKept])), (h_t_holders, .inl (cH, 6, .inr (.inr (.inr (.inr (fun i => some (d_t_holders i))))))), ((d_t_holders 0), .inr (2, [.int (t_holders_sort 0), .long (t_holders_tree 0), .int (t_holders_limit 0), .ref (q_t_holders 0), .long (t_holders_above 0), .int (t_holders_size 0)])), ((q_t_holders 0), .inl (cI, 20, .inl (a_t_holders 0))), ((d_t_holders 1), .inr (2, [.int (t_holders_sort 1), .long (t_holders_tree 1), .int (t_holders_limit 1), .ref (q_t_holders 1), .long (t_holders_above 1), .int (t_holders_size 1)])), ((q_t_holders 1), .inl (cI, 20, .inl (a_t_holders 1))), ((d_t_holders 2), .inr (2, [.int (t_holders_sort 2), .long (t_holders_tree 2), .int (t_holders_limit 2), .ref (q_t_holders 2), .long (t_holders_above 2), .int (t_holders_size 2)])), ((q_t_holders 2), .inl (cI, 20, .inl (a_t_holders 2))), ((d_t_holders 3), .inr (2, [.int (t_holders_sort 3), .long (t_holders_tree 3), .int (t_holders_limit 3), .ref (q_t_holders 3), .long (t_holders_above 3), .int (t_holders_size 3)])), ((q_t_holders 3), .inl (cI, 20, .inl (a_t_holders 3))), ((d_t_holders 4), .inr (2, [.int (t_holders_sort 4), .long (t_holders_tree 4), .int (t_holders_limit 4), .ref (q_t_holders 4), .long (t_holders_above 4), .int (t_holders_size 4)])), ((q_t_holders 4), .inl (cI, 20, .inl (a_t_holders 4))), ((d_t_holders 5), .inr (2, [.int (t_holders_sort 5), .long (t_holders_tree 5), .int (t_holders_limit 5), .ref (q_t_holders 5), .long (t_holders_above 5), .int (t_holders_size 5)])), ((q_t_holders 5), .inl (cI, 20, .inl (a_t_holders 5))), (h_t_desk, .inr (1, [.int t_desk_genus, .int t_desk_size, .ref h_t_desk_powers, .int t_desk_limit, .long t_desk_tree]))] s.heap.size = A at hD ⊢
  have hA : ∀ q : Nat, s.heap.size ≤ q → A q := fun q h => by rw [← hAe]; exact Or.inr h
  have hS : va_S A s.heap s.heap [] := va_S.rf
  have hl := lv_entry ([.ref h_t, .int p0]) (n := 4) (Nat.le_of_ble_eq_true rfl)
  rw [lg_entry_eq]
  generalize (lg_sl ([.ref h_t, .int p0]) ++ List.replicate (4 - (lg_sl ([.ref h_t, .int p0])).length) Slot.unset).toArray = ls at hl ⊢
  have hl : lv_has ls 4 [(0, .ref h_t), (1, .int p0)] := hl
  have hinX1 : ∀ w ∈ wsX10, w ∈ wsX8_common := hin_of in_X1
  have hinX2 : ∀ w ∈ wsX20, w ∈ wsX8_common := hin_of in_X2
  have hinX8 : ∀ w ∈ wsX80, w ∈ wsX8_common := hin_of in_X8
  have h := hF
  unfold F_X8_common at h
  refine lv_aload_n hx hb dX8_common_0 rfl (lv_at hl 0 rfl) ?_
  refine lv_iload_n hx hb dX8_common_1 rfl (lv_at hl 1 rfl) ?_
  obtain ⟨x1, hx1, h⟩ := bd_e h
  try dsimp only at h
  have hc1 := k_lt_X8_holderAt hx1
  by_cases hd1 : x1 = 6
  · subst hd1
    refine k_VqU (n := 1) (As := [.int p0]) (rest := []) hx hb hml hown hts (c_X8_holderAt l G cI cJ cD cH s.heap.size h_t h_t_holders h_t_desk h_t_imageDesk h_t_deeds h_t_numbers h_t_tape h_t_reader h_t_speller d_t_holders q_t_holders a_t_holders t_holders_sort t_holders_tree t_holders_limit t_holders_above t_holders_size t_imageKept p0 6 hx1) gX8_common_X8_holderAt rfl rfl rfl (by decide +kernel) ⟨by first | exact Nat.le_of_ble_eq_true rfl | (simp only [headSpec]; omega), by first | exact Nat.le_of_ble_eq_true rfl | (simp only [headSpec]; omega)⟩ hK hP hD hS hA [0, 1, 2, 3, 4, 5, 6, 7, 8, 9, 10, 11, 12, 13] (by decide) rfl (ci := 7) rfl rfl rfl rfl rfl hl.1 (Nat.le_of_ble_eq_true rfl) dX8_common_2 ⟨Nat.zero_le _, Nat.zero_le _⟩ (fun hp1 H locs hP hS => ?_)
    refine W.eq (g2 := F0 m 5 ls [.null]) rfl ?_
    have h := it_p h rfl
    refine lv_astore_nN (lv' := [(2, .null), (0, .ref h_t), (1, .int p0)]) hx hb dX8_common_5 rfl hl (by decide) rfl (fun ls hl => ?_)
    refine lv_aload_nN hx hb dX8_common_6 rfl (lv_at hl 0 rfl) ?_
    refine lv_iconst (v := (2 : Int32)) hx hb dX8_common_7 (by decide) ?_
    obtain ⟨x6, hx6, h⟩ := bd_e h
    try dsimp only at h
    refine k_SiU (n := 2) (As := [.null, .int (2 : Int32)]) (rest := []) hx hb hml hown hts (c_X8_refusalOfN l G cI cJ cD cH H.size (2 : Int32) x6 hx6) gX8_common_X8_refusalOf rfl rfl rfl (by decide +kernel) ⟨by first | exact Nat.le_of_ble_eq_true rfl | (simp only [headSpec]; omega), by first | exact Nat.le_of_ble_eq_true rfl | (simp only [headSpec]; omega)⟩ hK hP hD hS hA [] (by decide) rfl rfl rfl hl.1 (Nat.le_of_ble_eq_true rfl) dX8_common_8 ⟨Nat.zero_le _, Nat.zero_le _⟩ (fun hp6 H locs hP hS => ?_)
    refine lv_istore_n (lv' := [(3, .int x6), (2, .null), (0, .ref h_t), (1, .int p0)]) hx hb dX8_common_11 rfl hl (by decide) rfl (fun ls hl => ?_)
    refine lv_aload_nN hx hb dX8_common_12 rfl (lv_at hl 1 rfl) ?_
    refine lv_ifnullN (tgt := 20) hx hb dX8_common_13 (by decide) ?_
    refine lv_iload_n hx hb dX8_common_20 rfl (lv_at hl 0 rfl) ?_
    have h9 := Option.some.inj h
    have e9 : x6 = r0 := congrArg (fun z9 => z9) h9
    subst e9
    exact k_iret hx hb hr hlocks hP hS rfl dX8_common_21
  have hb1 : x1 < 6 := by omega
  refine k_VqU (n := 1) (As := [.int p0]) (rest := []) hx hb hml hown hts (c_X8_holderAt l G cI cJ cD cH s.heap.size h_t h_t_holders h_t_desk h_t_imageDesk h_t_deeds h_t_numbers h_t_tape h_t_reader h_t_speller d_t_holders q_t_holders a_t_holders t_holders_sort t_holders_tree t_holders_limit t_holders_above t_holders_size t_imageKept p0 x1 hx1) gX8_common_X8_holderAt rfl rfl rfl (by decide +kernel) ⟨by first | exact Nat.le_of_ble_eq_true rfl | (simp only [headSpec]; omega), by first | exact Nat.le_of_ble_eq_true rfl | (simp only [headSpec]; omega)⟩ hK hP hD hS hA [0, 1, 2, 3, 4, 5, 6, 7, 8, 9, 10, 11, 12, 13] (by decide) rfl (ci := 7) rfl rfl rfl rfl rfl hl.1 (Nat.le_of_ble_eq_true rfl) dX8_common_2 ⟨Nat.zero_le _, Nat.zero_le _⟩ (fun hp1 H locs hP hS => ?_)
  refine W.eq (g2 := F0 m 5 ls [.ref (d_t_holders x1)]) (by rw [if_neg hd1]; rfl) ?_
  have h := it_n h hd1
  refine lv_astore_n (lv' := [(2, .ref (d_t_holders x1)), (0, .ref h_t), (1, .int p0)]) hx hb dX8_common_5 rfl hl (by decide) rfl (fun ls hl => ?_)
  refine lv_aload_n hx hb dX8_common_6 rfl (lv_at hl 0 rfl) ?_
  refine lv_iconst (v := (2 : Int32)) hx hb dX8_common_7 (by decide) ?_
  obtain ⟨x2, hx2, h⟩ := bd_e h
  try dsimp only at h
  refine k_SiU (n := 2) (As := [.ref (d_t_holders x1), .int (2 : Int32)]) (rest := []) hx hb hml hown hts (c_X8_refusalOf l G cI cJ cD cH H.size (d_t_holders x1) (q_t_holders x1) (t_holders_sort x1) (t_holders_tree x1) (t_holders_limit x1) (t_holders_above x1) (t_holders_size x1) (2 : Int32) x2 hx2) gX8_common_X8_refusalOf rfl rfl rfl (by decide +kernel) ⟨by first | exact Nat.le_of_ble_eq_true rfl | (simp only [headSpec]; omega), by first | exact Nat.le_of_ble_eq_true rfl | (simp only [headSpec]; omega)⟩ hK hP hD hS hA [(2 + 2 * x1)] (by obtain rfl | rfl | rfl | rfl | rfl | rfl := k_lt6 hb1 <;> decide) (by obtain rfl | rfl | rfl | rfl | rfl | rfl := k_lt6 hb1 <;> rfl) rfl rfl hl.1 (Nat.le_of_ble_eq_true rfl) dX8_common_8 ⟨Nat.zero_le _, Nat.zero_le _⟩ (fun hp2 H locs hP hS => ?_)
  refine lv_istore_n (lv' := [(3, .int x2), (2, .ref (d_t_holders x1)), (0, .ref h_t), (1, .int p0)]) hx hb dX8_common_11 rfl hl (by decide) rfl (fun ls hl => ?_)
  refine lv_aload_n hx hb dX8_common_12 rfl (lv_at hl 1 rfl) ?_
  refine lv_ifnull hx hb dX8_common_13 ?_
  refine lv_iload_n hx hb dX8_common_16 rfl (lv_at hl 0 rfl) ?_
  refine lv_if_eq (tgt := 22) hx hb dX8_common_17 (by decide) (fun c3 => ?_) (fun c3 => ?_)
  rotate_left
  · have h := it_n h c3
    refine lv_iload_n hx hb dX8_common_20 rfl (lv_at hl 0 rfl) ?_
    have h9 := Option.some.inj h
    have e9 : x2 = r0 := congrArg (fun z9 => z9) h9
    subst e9
    exact k_iret hx hb hr hlocks hP hS rfl dX8_common_21
  have h := it_p h c3
  refine lv_aload_n hx hb dX8_common_22 rfl (lv_at hl 1 rfl) ?_
  refine va_get (D := G) (fs := [.int (t_holders_sort x1), .long (t_holders_tree x1), .int (t_holders_limit x1), .ref (q_t_holders x1), .long (t_holders_above x1), .int (t_holders_size x1)]) (ci := 2) (v := .int (t_holders_limit x1)) (C := RX2) (T := TX2) (N := 6) hx hb hts hinX2 hown hK hP (2 + 2 * x1) (by obtain rfl | rfl | rfl | rfl | rfl | rfl := k_lt6 hb1 <;> rfl) rfl 2 (by decide) (hta _ mw_578) (fun _ h9 => h9) rfl dX8_common_23 ?_
  refine lv_aload_n hx hb dX8_common_26 rfl (lv_at hl 2 rfl) ?_
  refine va_get (D := G) (ci := 7) (v := .ref h_t_desk) (C := RX8) (T := TX8) (N := 9) hx hb hts hinX8 hown hK hP 0 rfl rfl 0 (by decide) (hta _ mw_354) (fun _ h9 => h9) rfl dX8_common_27 ?_
  refine va_get (D := G) (ci := 1) (v := .int t_desk_limit) (C := RX1) (T := TX1) (N := 5) hx hb hts hinX1 hown hK hP 14 rfl rfl 3 (by decide) (hta _ mw_476) (fun _ h9 => h9) rfl dX8_common_30 ?_
  refine lv_icmp_eq (tgt := 39) hx hb dX8_common_33 (by decide) (fun c4 => ?_) (fun c4 => ?_)
  rotate_left
  · have h := it_n h c4
    refine lv_bipush (v := (-5 : Int32)) hx hb dX8_common_36 (by decide) ?_
    have h9 := Option.some.inj h
    have e9 : (-5 : Int32) = r0 := congrArg (fun z9 => z9) h9
    subst e9
    exact k_iret hx hb hr hlocks hP hS rfl dX8_common_38
  have h := it_p h c4
  refine lv_aload_n hx hb dX8_common_39 rfl (lv_at hl 1 rfl) ?_
  refine va_get (D := G) (fs := [.int (t_holders_sort x1), .long (t_holders_tree x1), .int (t_holders_limit x1), .ref (q_t_holders x1), .long (t_holders_above x1), .int (t_holders_size x1)]) (ci := 2) (v := .long (t_holders_tree x1)) (C := RX2) (T := TX2) (N := 6) hx hb hts hinX2 hown hK hP (2 + 2 * x1) (by obtain rfl | rfl | rfl | rfl | rfl | rfl := k_lt6 hb1 <;> rfl) rfl 1 (by decide) (hta _ mw_579) (fun _ h9 => h9) rfl dX8_common_40 ?_
  refine lv_aload_n hx hb dX8_common_43 rfl (lv_at hl 2 rfl) ?_
  refine va_get (D := G) (ci := 7) (v := .ref h_t_desk) (C := RX8) (T := TX8) (N := 9) hx hb hts hinX8 hown hK hP 0 rfl rfl 0 (by decide) (hta _ mw_354) (fun _ h9 => h9) rfl dX8_common_44 ?_
  refine va_get (D := G) (ci := 1) (v := .long t_desk_tree) (C := RX1) (T := TX1) (N := 5) hx hb hts hinX1 hown hK hP 14 rfl rfl 4 (by decide) (hta _ mw_477) (fun _ h9 => h9) rfl dX8_common_47 ?_
  refine lv_land hx hb dX8_common_50 ?_
  obtain ⟨x5, hx5, h⟩ := bd_e h
  try dsimp only at h
  refine k_SiU (n := 1) (As := [.long ((t_holders_tree x1) &&& t_desk_tree)]) (rest := []) hx hb hml hown hts (c_X6_sizeOf l G cI cJ cD cH H.size ((t_holders_tree x1) &&& t_desk_tree) x5 hx5) gX8_common_X6_sizeOf rfl rfl rfl (by decide +kernel) ⟨by first | exact Nat.le_of_ble_eq_true rfl | (simp only [headSpec]; omega), by first | exact Nat.le_of_ble_eq_true rfl | (simp only [headSpec]; omega)⟩ hK hP hD hS hA [] (by decide) rfl rfl rfl hl.1 (Nat.le_of_ble_eq_true rfl) dX8_common_51 ⟨Nat.zero_le _, Nat.zero_le _⟩ (fun hp5 H locs hP hS => ?_)
  have h9 := Option.some.inj h
  have e9 : x5 = r0 := congrArg (fun z9 => z9) h9
  subst e9
  exact k_iret hx hb hr hlocks hP hS rfl dX8_common_54
