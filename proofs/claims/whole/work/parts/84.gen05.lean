/-! X8_onTree -/
set_option maxHeartbeats 4000000 in
set_option maxRecDepth 100000 in
theorem tK_X8_onTree_41_72 {l : Launch} {G : va_G} {cI cJ cD cH : ClassId} {h_t : Nat} {h_t_desk : Nat} {h_t_numbers : Nat} {h_t_desk_powers : Nat} {h_t_numbers_keys : Nat} {h_t_numbers_aboves : Nat} {h_t_imageDesk : Nat} {h_t_deeds : Nat} {h_t_tape : Nat} {h_t_reader : Nat} {h_t_speller : Nat} {h_t_holders : Nat} {h_t_numbers_rounds : Nat} {t_imageKept : Int32} {t_desk_genus : Int32} {t_desk_size : Int32} {t_desk_limit : Int32} {t_desk_tree : Int64} {t_numbers_round : Int32} {a_t_desk_powers : Nat → Int32} {r0 : Int64} {w0 : Nat → Int64} {w1 : Nat → Int64} {w2 : Int32} {w3 : Int32} {w4 : Int64} {p : Program} {e : Env} {s : State} {m : MethodId} {below : List Frame} {meth : Method} {c : Code} {A : Nat → Prop} (hx : p.tables.exec = Jvm.exec) (hb : c.code = cX8_onTree) (hr : meth.sig.returnType = (some .long)) (hml : c.maxLocals = 5) (hts : ∀ w ∈ wsX8_onTree, w.before ([.ref h_t] : List Value).toArray s = true) (hown : s.vm.findClass RX8 = some m.cls) (hlocks : meth.locks = false) (hK : va_K G vwCl (k_T cI cJ cD cH) s) (hA : ∀ q : Nat, s.heap.size ≤ q → A q) : ∀  (vK41_72_0 : Nat → Int64) (vK41_72_1 : Nat → Int64) (vK41_72_2 : Int32) (vK41_72_3 : Int32) (vK41_72_4 : Int64) (vK41_72_5 : Int64) (H : Heap) (locs : List Loc) (ls : Array Slot), va_P G vwCl [(h_t, .inr (7, [.ref h_t_desk, .ref h_t_imageDesk, .ref h_t_deeds, .ref h_t_numbers, .ref h_t_tape, .ref h_t_reader, .ref h_t_speller, .ref h_t_holders, .int t_imageKept])), (h_t_desk, .inr (1, [.int t_desk_genus, .int t_desk_size, .ref h_t_desk_powers, .int t_desk_limit, .long t_desk_tree])), (h_t_numbers, .inr (3, [.ref h_t_numbers_keys, .ref h_t_numbers_aboves, .ref h_t_numbers_rounds, .int t_numbers_round, .int vK41_72_2, .int vK41_72_3, .long vK41_72_4])), (h_t_desk_powers, .inl (cI, 8, .inl a_t_desk_powers)), (h_t_numbers_keys, .inl (cJ, 1024, .inr (.inl vK41_72_0))), (h_t_numbers_aboves, .inl (cJ, 1024, .inr (.inl vK41_72_1)))] H → va_D A [(h_t, .inr (7, [.ref h_t_desk, .ref h_t_imageDesk, .ref h_t_deeds, .ref h_t_numbers, .ref h_t_tape, .ref h_t_reader, .ref h_t_speller, .ref h_t_holders, .int t_imageKept])), (h_t_desk, .inr (1, [.int t_desk_genus, .int t_desk_size, .ref h_t_desk_powers, .int t_desk_limit, .long t_desk_tree])), (h_t_numbers, .inr (3, [.ref h_t_numbers_keys, .ref h_t_numbers_aboves, .ref h_t_numbers_rounds, .int t_numbers_round, .int vK41_72_2, .int vK41_72_3, .long vK41_72_4])), (h_t_desk_powers, .inl (cI, 8, .inl a_t_desk_powers)), (h_t_numbers_keys, .inl (cJ, 1024, .inr (.inl vK41_72_0))), (h_t_numbers_aboves, .inl (cJ, 1024, .inr (.inl vK41_72_1)))] → va_S A s.heap H locs → lv_has ls 5 [(1, .long vK41_72_5)] → K_X8_onTree_41_72 vK41_72_0 vK41_72_1 vK41_72_2 vK41_72_3 vK41_72_4 vK41_72_5 = some (r0, w0, w1, w2, w3, w4) → W p l e (headSpec wsX8_onTree ({ frames := 25, cells := 0, slots := 0, locals := 726 })).room s m ([.ref h_t] : List Value).toArray below meth c H locs 0 0 (MQ below (va_Ql (fun r (_ : Unit) => r = r0 ∧ True) (fun _ t => va_P G vwCl [(h_t, .inr (7, [.ref h_t_desk, .ref h_t_imageDesk, .ref h_t_deeds, .ref h_t_numbers, .ref h_t_tape, .ref h_t_reader, .ref h_t_speller, .ref h_t_holders, .int t_imageKept])), (h_t_desk, .inr (1, [.int t_desk_genus, .int t_desk_size, .ref h_t_desk_powers, .int t_desk_limit, .long t_desk_tree])), (h_t_numbers, .inr (3, [.ref h_t_numbers_keys, .ref h_t_numbers_aboves, .ref h_t_numbers_rounds, .int t_numbers_round, .int w2, .int w3, .long w4])), (h_t_desk_powers, .inl (cI, 8, .inl a_t_desk_powers)), (h_t_numbers_keys, .inl (cJ, 1024, .inr (.inl w0))), (h_t_numbers_aboves, .inl (cJ, 1024, .inr (.inl w1)))] t.heap) A) ([.ref h_t] : List Value).toArray s 0 0 A) (F0 m 72 ls []) := by
  have hta : ∀ w ∈ wA, w.before ([.ref h_t] : List Value).toArray s = true := hta_of hts
  have hinX1 : ∀ w ∈ wsX10, w ∈ wsX8_onTree := hin_of in_X1
  have hinX8 : ∀ w ∈ wsX80, w ∈ wsX8_onTree := hin_of in_X8
  intro vK41_72_0 vK41_72_1 vK41_72_2 vK41_72_3 vK41_72_4 vK41_72_5 H locs ls hP hD hS hl h
  unfold K_X8_onTree_41_72 at h
  refine lv_lload_n hx hb dX8_onTree_72 rfl (lv_at hl 0 rfl) ?_
  have h9 := Option.some.inj h
  have e9 : vK41_72_5 = r0 := congrArg (fun z9 => z9.1) h9
  rw [← e9]
  have e9 : vK41_72_0 = w0 := congrArg (fun z9 => z9.2.1) h9
  rw [← e9]
  have e9 : vK41_72_1 = w1 := congrArg (fun z9 => z9.2.2.1) h9
  rw [← e9]
  have e9 : vK41_72_2 = w2 := congrArg (fun z9 => z9.2.2.2.1) h9
  rw [← e9]
  have e9 : vK41_72_3 = w3 := congrArg (fun z9 => z9.2.2.2.2.1) h9
  rw [← e9]
  have e9 : vK41_72_4 = w4 := congrArg (fun z9 => z9.2.2.2.2.2) h9
  rw [← e9]
  exact k_lret hx hb hr hlocks hP hS rfl dX8_onTree_73
set_option maxHeartbeats 4000000 in
set_option maxRecDepth 100000 in
theorem c_X8_onTree (l : Launch) (G : va_G) (cI cJ cD cH : ClassId) (sz : Nat) (h_t : Nat) (h_t_desk : Nat) (h_t_numbers : Nat) (h_t_desk_powers : Nat) (h_t_numbers_keys : Nat) (h_t_numbers_aboves : Nat) (h_t_imageDesk : Nat) (h_t_deeds : Nat) (h_t_tape : Nat) (h_t_reader : Nat) (h_t_speller : Nat) (h_t_holders : Nat) (h_t_numbers_rounds : Nat) (t_imageKept : Int32) (t_desk_genus : Int32) (t_desk_size : Int32) (t_desk_limit : Int32) (t_desk_tree : Int64) (t_numbers_round : Int32) (t_numbers_size : Int32) (t_numbers_sum : Int32) (t_numbers_gathered : Int64) (a_t_desk_powers : Nat → Int32) (a_t_numbers_keys : Nat → Int64) (a_t_numbers_aboves : Nat → Int64) (r0 : Int64) (w0 : Nat → Int64) (w1 : Nat → Int64) (w2 : Int32) (w3 : Int32) (w4 : Int64) (hF : F_X8_onTree t_desk_size t_desk_limit t_desk_tree t_numbers_size t_numbers_sum t_numbers_gathered a_t_desk_powers a_t_numbers_keys a_t_numbers_aboves = some (r0, w0, w1, w2, w3, w4)) : Met l yX8_onTree wsX8_onTree ({ frames := 25, cells := 0, slots := 0, locals := 726 }) (k_pre G (k_T cI cJ cD cH) [(h_t, .inr (7, [.ref h_t_desk, .ref h_t_imageDesk, .ref h_t_deeds, .ref h_t_numbers, .ref h_t_tape, .ref h_t_reader, .ref h_t_speller, .ref h_t_holders, .int t_imageKept])), (h_t_desk, .inr (1, [.int t_desk_genus, .int t_desk_size, .ref h_t_desk_powers, .int t_desk_limit, .long t_desk_tree])), (h_t_numbers, .inr (3, [.ref h_t_numbers_keys, .ref h_t_numbers_aboves, .ref h_t_numbers_rounds, .int t_numbers_round, .int t_numbers_size, .int t_numbers_sum, .long t_numbers_gathered])), (h_t_desk_powers, .inl (cI, 8, .inl a_t_desk_powers)), (h_t_numbers_keys, .inl (cJ, 1024, .inr (.inl a_t_numbers_keys))), (h_t_numbers_aboves, .inl (cJ, 1024, .inr (.inl a_t_numbers_aboves)))] sz [.ref h_t]) (va_Ql (fun r (_ : Unit) => r = r0 ∧ True) (fun _ t => va_P G vwCl [(h_t, .inr (7, [.ref h_t_desk, .ref h_t_imageDesk, .ref h_t_deeds, .ref h_t_numbers, .ref h_t_tape, .ref h_t_reader, .ref h_t_speller, .ref h_t_holders, .int t_imageKept])), (h_t_desk, .inr (1, [.int t_desk_genus, .int t_desk_size, .ref h_t_desk_powers, .int t_desk_limit, .long t_desk_tree])), (h_t_numbers, .inr (3, [.ref h_t_numbers_keys, .ref h_t_numbers_aboves, .ref h_t_numbers_rounds, .int t_numbers_round, .int w2, .int w3, .long w4])), (h_t_desk_powers, .inl (cI, 8, .inl a_t_desk_powers)), (h_t_numbers_keys, .inl (cJ, 1024, .inr (.inl w0))), (h_t_numbers_aboves, .inl (cJ, 1024, .inr (.inl w1)))] t.heap) (va_A [(h_t, .inr (7, [.ref h_t_desk, .ref h_t_imageDesk, .ref h_t_deeds, .ref h_t_numbers, .ref h_t_tape, .ref h_t_reader, .ref h_t_speller, .ref h_t_holders, .int t_imageKept])), (h_t_desk, .inr (1, [.int t_desk_genus, .int t_desk_size, .ref h_t_desk_powers, .int t_desk_limit, .long t_desk_tree])), (h_t_numbers, .inr (3, [.ref h_t_numbers_keys, .ref h_t_numbers_aboves, .ref h_t_numbers_rounds, .int t_numbers_round, .int t_numbers_size, .int t_numbers_sum, .long t_numbers_gathered])), (h_t_desk_powers, .inl (cI, 8, .inl a_t_desk_powers)), (h_t_numbers_keys, .inl (cJ, 1024, .inr (.inl a_t_numbers_keys))), (h_t_numbers_aboves, .inl (cJ, 1024, .inr (.inl a_t_numbers_aboves)))] sz)) 0 0 (va_A [(h_t, .inr (7, [.ref h_t_desk, .ref h_t_imageDesk, .ref h_t_deeds, .ref h_t_numbers, .ref h_t_tape, .ref h_t_reader, .ref h_t_speller, .ref h_t_holders, .int t_imageKept])), (h_t_desk, .inr (1, [.int t_desk_genus, .int t_desk_size, .ref h_t_desk_powers, .int t_desk_limit, .long t_desk_tree])), (h_t_numbers, .inr (3, [.ref h_t_numbers_keys, .ref h_t_numbers_aboves, .ref h_t_numbers_rounds, .int t_numbers_round, .int t_numbers_size, .int t_numbers_sum, .long t_numbers_gathered])), (h_t_desk_powers, .inl (cI, 8, .inl a_t_desk_powers)), (h_t_numbers_keys, .inl (cJ, 1024, .inr (.inl a_t_numbers_keys))), (h_t_numbers_aboves, .inl (cJ, 1024, .inr (.inl a_t_numbers_aboves)))] sz) := by
  refine Met.ofW (cc := cX8_onTree) (maxL := 5) (ret := (some .long)) (by decide) rfl ?_
  intro p e s m args below meth c s₁ B hml hv
  obtain ⟨rfl, hsz, hP, hK, hD0⟩ := hv
  have hx := B.exec
  have hb := B.bytes
  have hr := B.returns
  have hts := atoms_spec (ws := wsX8_onTree) B.pre
  have hta : ∀ w ∈ wA, w.before ([.ref h_t] : List Value).toArray s = true := hta_of hts
  have hown : s.vm.findClass RX8 = some m.cls := findClass_of_methodNamed B.named
  have hlocks := B.notSynchronized
  subst hsz
  have hD := hD0.self (sz := s.heap.size)
  generalize hAe : va_A [(h_t, .inr (7, [.ref h_t_desk, .ref h_t_imageDesk, .ref h_t_deeds, .ref h_t_numbers, .ref h_t_tape, .ref h_t_reader, .ref h_t_speller, .ref h_t_holders, .int t_imageKept])), (h_t_desk, .inr (1, [.int t_desk_genus, .int t_desk_size, .ref h_t_desk_powers, .int t_desk_limit, .long t_desk_tree])), (h_t_numbers, .inr (3, [.ref h_t_numbers_keys, .ref h_t_numbers_aboves, .ref h_t_numbers_rounds, .int t_numbers_round, .int t_numbers_size, .int t_numbers_sum, .long t_numbers_gathered])), (h_t_desk_powers, .inl (cI, 8, .inl a_t_desk_powers)), (h_t_numbers_keys, .inl (cJ, 1024, .inr (.inl a_t_numbers_keys))), (h_t_numbers_aboves, .inl (cJ, 1024, .inr (.inl a_t_numbers_aboves)))] s.heap.size = A at hD ⊢
  have hA : ∀ q : Nat, s.heap.size ≤ q → A q := fun q h => by rw [← hAe]; exact Or.inr h
  have hS : va_S A s.heap s.heap [] := va_S.rf
  have hl := lv_entry ([.ref h_t]) (n := 5) (Nat.le_of_ble_eq_true rfl)
  rw [lg_entry_eq]
  generalize (lg_sl ([.ref h_t]) ++ List.replicate (5 - (lg_sl ([.ref h_t])).length) Slot.unset).toArray = ls at hl ⊢
  have hl : lv_has ls 5 [(0, .ref h_t)] := hl
  have hinX1 : ∀ w ∈ wsX10, w ∈ wsX8_onTree := hin_of in_X1
  have hinX8 : ∀ w ∈ wsX80, w ∈ wsX8_onTree := hin_of in_X8
  have h := hF
  unfold F_X8_onTree at h
  refine lv_aload_n hx hb dX8_onTree_0 rfl (lv_at hl 0 rfl) ?_
  refine va_get (D := G) (ci := 7) (v := .ref h_t_desk) (C := RX8) (T := TX8) (N := 9) hx hb hts hinX8 hown hK hP 0 rfl rfl 0 (by decide) (hta _ mw_358) (fun _ h9 => h9) rfl dX8_onTree_1 ?_
  refine va_get (D := G) (ci := 1) (v := .int t_desk_size) (C := RX1) (T := TX1) (N := 5) hx hb hts hinX1 hown hK hP 1 rfl rfl 1 (by decide) (hta _ mw_394) (fun _ h9 => h9) rfl dX8_onTree_4 ?_
  refine lv_aload_n hx hb dX8_onTree_7 rfl (lv_at hl 0 rfl) ?_
  refine va_get (D := G) (ci := 7) (v := .ref h_t_desk) (C := RX8) (T := TX8) (N := 9) hx hb hts hinX8 hown hK hP 0 rfl rfl 0 (by decide) (hta _ mw_358) (fun _ h9 => h9) rfl dX8_onTree_8 ?_
  refine va_get (D := G) (ci := 1) (v := .int t_desk_limit) (C := RX1) (T := TX1) (N := 5) hx hb hts hinX1 hown hK hP 1 rfl rfl 3 (by decide) (hta _ mw_479) (fun _ h9 => h9) rfl dX8_onTree_11 ?_
  refine lv_icmp_eq (tgt := 21) hx hb dX8_onTree_14 (by decide) (fun c1 => ?_) (fun c1 => ?_)
  rotate_left
  · have h := it_n h c1
    refine lv_ldc2 (v := (-9223372036854775808 : Int64)) hx hb hown (hta _ mw_424) dX8_onTree_17 ?_
    have h9 := Option.some.inj h
    have e9 : (-9223372036854775808 : Int64) = r0 := congrArg (fun z9 => z9.1) h9
    rw [← e9]
    have e9 : a_t_numbers_keys = w0 := congrArg (fun z9 => z9.2.1) h9
    rw [← e9]
    have e9 : a_t_numbers_aboves = w1 := congrArg (fun z9 => z9.2.2.1) h9
    rw [← e9]
    have e9 : t_numbers_size = w2 := congrArg (fun z9 => z9.2.2.2.1) h9
    rw [← e9]
    have e9 : t_numbers_sum = w3 := congrArg (fun z9 => z9.2.2.2.2.1) h9
    rw [← e9]
    have e9 : t_numbers_gathered = w4 := congrArg (fun z9 => z9.2.2.2.2.2) h9
    rw [← e9]
    exact k_lret hx hb hr hlocks hP hS rfl dX8_onTree_20
  have h := it_p h c1
  refine lv_aload_n hx hb dX8_onTree_21 rfl (lv_at hl 0 rfl) ?_
  refine lv_iconst (v := (0 : Int32)) hx hb dX8_onTree_22 (by decide) ?_
  obtain ⟨x2, hx2, h⟩ := bd_e h
  try dsimp only at h
  refine k_VlM (n := 1) (As := [.int (0 : Int32)]) (rest := []) hx hb hml hown hts (c_X8_numberOfNode l G cI cJ cD cH s.heap.size h_t h_t_desk h_t_numbers h_t_desk_powers h_t_numbers_keys h_t_numbers_aboves h_t_imageDesk h_t_deeds h_t_tape h_t_reader h_t_speller h_t_holders h_t_numbers_rounds t_imageKept t_desk_genus t_desk_size t_desk_limit t_desk_tree t_numbers_round t_numbers_size t_numbers_sum t_numbers_gathered a_t_desk_powers a_t_numbers_keys a_t_numbers_aboves (0 : Int32) (x2.1) (x2.2.1) (x2.2.2.1) (x2.2.2.2.1) (x2.2.2.2.2.1) (x2.2.2.2.2.2) hx2) gX8_onTree_X8_numberOfNode rfl rfl rfl (by decide +kernel) ⟨by first | exact Nat.le_of_ble_eq_true rfl | (simp only [headSpec]; omega), by first | exact Nat.le_of_ble_eq_true rfl | (simp only [headSpec]; omega)⟩ hK hP hD hS hA [0, 1, 2, 3, 4, 5] (by decide) rfl rfl (ci := 7) rfl rfl rfl rfl rfl hl.1 (Nat.le_of_ble_eq_true rfl) dX8_onTree_23 ⟨Nat.zero_le _, Nat.zero_le _⟩ [(h_t, .inr (7, [.ref h_t_desk, .ref h_t_imageDesk, .ref h_t_deeds, .ref h_t_numbers, .ref h_t_tape, .ref h_t_reader, .ref h_t_speller, .ref h_t_holders, .int t_imageKept])), (h_t_desk, .inr (1, [.int t_desk_genus, .int t_desk_size, .ref h_t_desk_powers, .int t_desk_limit, .long t_desk_tree])), (h_t_numbers, .inr (3, [.ref h_t_numbers_keys, .ref h_t_numbers_aboves, .ref h_t_numbers_rounds, .int t_numbers_round, .int (x2.2.2.2.1), .int (x2.2.2.2.2.1), .long (x2.2.2.2.2.2)])), (h_t_desk_powers, .inl (cI, 8, .inl a_t_desk_powers)), (h_t_numbers_keys, .inl (cJ, 1024, .inr (.inl (x2.2.1)))), (h_t_numbers_aboves, .inl (cJ, 1024, .inr (.inl (x2.2.2.1))))] [1, 2, 3, 4, 5, 6] 6 (by decide +kernel) rfl rfl rfl (fun hp2 H locs hP hD hS => ?_)
  refine lv_lstore_n (lv' := [(1, .long (x2.1)), (0, .ref h_t)]) hx hb dX8_onTree_26 rfl hl (by decide) rfl (fun ls hl => ?_)
  refine lv_aload_n hx hb dX8_onTree_27 rfl (lv_at hl 1 rfl) ?_
  refine va_get (D := G) (ci := 7) (v := .ref h_t_desk) (C := RX8) (T := TX8) (N := 9) hx hb hts hinX8 hown hK hP 0 rfl rfl 0 (by decide) (hta _ mw_358) (fun _ h9 => h9) rfl dX8_onTree_28 ?_
  refine va_get (D := G) (ci := 1) (v := .long t_desk_tree) (C := RX1) (T := TX1) (N := 5) hx hb hts hinX1 hown hK hP 1 rfl rfl 4 (by decide) (hta _ mw_480) (fun _ h9 => h9) rfl dX8_onTree_31 ?_
  obtain ⟨x3, hx3, h⟩ := bd_e h
  try dsimp only at h
  refine k_SiU (n := 1) (As := [.long t_desk_tree]) (rest := []) hx hb hml hown hts (c_X6_sizeOf l G cI cJ cD cH H.size t_desk_tree x3 hx3) gX8_onTree_X6_sizeOf rfl rfl rfl (by decide +kernel) ⟨by first | exact Nat.le_of_ble_eq_true rfl | (simp only [headSpec]; omega), by first | exact Nat.le_of_ble_eq_true rfl | (simp only [headSpec]; omega)⟩ hK hP hD hS hA [] (by decide) rfl rfl rfl hl.1 (Nat.le_of_ble_eq_true rfl) dX8_onTree_34 ⟨Nat.zero_le _, Nat.zero_le _⟩ (fun hp3 H locs hP hS => ?_)
  refine lv_istore_n (lv' := [(3, .int x3), (1, .long (x2.1)), (0, .ref h_t)]) hx hb dX8_onTree_37 rfl hl (by decide) rfl (fun ls hl => ?_)
  refine lv_iconst (v := (0 : Int32)) hx hb dX8_onTree_38 (by decide) ?_
  refine lv_istore (lv' := [(4, .int (0 : Int32)), (3, .int x3), (1, .long (x2.1)), (0, .ref h_t)]) hx hb dX8_onTree_39 hl (by decide) rfl (fun ls hl => ?_)
  have hL41 : ∀ (n41 : Nat) (vL41_0 : Nat → Int64) (vL41_1 : Nat → Int64) (vL41_2 : Int32) (vL41_3 : Int32) (vL41_4 : Int64) (vL41_5 : Int64) (vL41_6 : Int32) (H : Heap) (locs : List Loc) (ls : Array Slot), va_P G vwCl [(h_t, .inr (7, [.ref h_t_desk, .ref h_t_imageDesk, .ref h_t_deeds, .ref h_t_numbers, .ref h_t_tape, .ref h_t_reader, .ref h_t_speller, .ref h_t_holders, .int t_imageKept])), (h_t_desk, .inr (1, [.int t_desk_genus, .int t_desk_size, .ref h_t_desk_powers, .int t_desk_limit, .long t_desk_tree])), (h_t_numbers, .inr (3, [.ref h_t_numbers_keys, .ref h_t_numbers_aboves, .ref h_t_numbers_rounds, .int t_numbers_round, .int vL41_2, .int vL41_3, .long vL41_4])), (h_t_desk_powers, .inl (cI, 8, .inl a_t_desk_powers)), (h_t_numbers_keys, .inl (cJ, 1024, .inr (.inl vL41_0))), (h_t_numbers_aboves, .inl (cJ, 1024, .inr (.inl vL41_1)))] H → va_D A [(h_t, .inr (7, [.ref h_t_desk, .ref h_t_imageDesk, .ref h_t_deeds, .ref h_t_numbers, .ref h_t_tape, .ref h_t_reader, .ref h_t_speller, .ref h_t_holders, .int t_imageKept])), (h_t_desk, .inr (1, [.int t_desk_genus, .int t_desk_size, .ref h_t_desk_powers, .int t_desk_limit, .long t_desk_tree])), (h_t_numbers, .inr (3, [.ref h_t_numbers_keys, .ref h_t_numbers_aboves, .ref h_t_numbers_rounds, .int t_numbers_round, .int vL41_2, .int vL41_3, .long vL41_4])), (h_t_desk_powers, .inl (cI, 8, .inl a_t_desk_powers)), (h_t_numbers_keys, .inl (cJ, 1024, .inr (.inl vL41_0))), (h_t_numbers_aboves, .inl (cJ, 1024, .inr (.inl vL41_1)))] → va_S A s.heap H locs → lv_has ls 5 [(0, .ref h_t), (1, .long vL41_5), (3, .int x3), (4, .int vL41_6)] → wq7 (B_X8_onTree_41 t_desk_size t_desk_limit t_desk_tree a_t_desk_powers x3 K_X8_onTree_41_72) n41 vL41_0 vL41_1 vL41_2 vL41_3 vL41_4 vL41_5 vL41_6 = some (r0, w0, w1, w2, w3, w4) → W p l e (headSpec wsX8_onTree ({ frames := 25, cells := 0, slots := 0, locals := 726 })).room s m ([.ref h_t] : List Value).toArray below meth c H locs 0 0 (MQ below (va_Ql (fun r (_ : Unit) => r = r0 ∧ True) (fun _ t => va_P G vwCl [(h_t, .inr (7, [.ref h_t_desk, .ref h_t_imageDesk, .ref h_t_deeds, .ref h_t_numbers, .ref h_t_tape, .ref h_t_reader, .ref h_t_speller, .ref h_t_holders, .int t_imageKept])), (h_t_desk, .inr (1, [.int t_desk_genus, .int t_desk_size, .ref h_t_desk_powers, .int t_desk_limit, .long t_desk_tree])), (h_t_numbers, .inr (3, [.ref h_t_numbers_keys, .ref h_t_numbers_aboves, .ref h_t_numbers_rounds, .int t_numbers_round, .int w2, .int w3, .long w4])), (h_t_desk_powers, .inl (cI, 8, .inl a_t_desk_powers)), (h_t_numbers_keys, .inl (cJ, 1024, .inr (.inl w0))), (h_t_numbers_aboves, .inl (cJ, 1024, .inr (.inl w1)))] t.heap) A) ([.ref h_t] : List Value).toArray s 0 0 A) (F0 m 41 ls []) := by
    intro n41
    induction n41 with
    | zero => intro vL41_0 vL41_1 vL41_2 vL41_3 vL41_4 vL41_5 vL41_6 H locs ls hP hD hS hl h; exact wq7_0 h
    | succ n41 ih41 =>
      intro vL41_0 vL41_1 vL41_2 vL41_3 vL41_4 vL41_5 vL41_6 H locs ls hP hD hS hl h
      have h := wq7_s h
      unfold B_X8_onTree_41 at h
      refine lv_iload hx hb dX8_onTree_41 (lv_at hl 3 rfl) ?_
      refine lv_iload_n hx hb dX8_onTree_43 rfl (lv_at hl 2 rfl) ?_
      refine lv_icmp_ge (tgt := 72) hx hb dX8_onTree_44 (by decide) (fun c4 => ?_) (fun c4 => ?_)
      · have h := it_p h c4
        exact tK_X8_onTree_41_72 hx hb hr hml hts hown hlocks hK hA vL41_0 vL41_1 vL41_2 vL41_3 vL41_4 vL41_5 _ _ _ hP hD hS (lv_sub hl [1] rfl) h
      have h := it_n h c4
      refine lv_lload_n hx hb dX8_onTree_47 rfl (lv_at hl 1 rfl) ?_
      refine lv_aload_n hx hb dX8_onTree_48 rfl (lv_at hl 0 rfl) ?_
      refine lv_aload_n hx hb dX8_onTree_49 rfl (lv_at hl 0 rfl) ?_
      refine va_get (D := G) (ci := 7) (v := .ref h_t_desk) (C := RX8) (T := TX8) (N := 9) hx hb hts hinX8 hown hK hP 0 rfl rfl 0 (by decide) (hta _ mw_358) (fun _ h9 => h9) rfl dX8_onTree_50 ?_
      refine va_get (D := G) (ci := 1) (v := .long t_desk_tree) (C := RX1) (T := TX1) (N := 5) hx hb hts hinX1 hown hK hP 1 rfl rfl 4 (by decide) (hta _ mw_480) (fun _ h9 => h9) rfl dX8_onTree_53 ?_
      refine lv_iload hx hb dX8_onTree_56 (lv_at hl 3 rfl) ?_
      obtain ⟨x5, hx5, h⟩ := bd_e h
      try dsimp only at h
      refine k_SiU (n := 2) (As := [.long t_desk_tree, .int vL41_6]) (rest := [.ref h_t, .long vL41_5]) hx hb hml hown hts (c_X6_nth l G cI cJ cD cH H.size t_desk_tree vL41_6 x5 hx5) gX8_onTree_X6_nth rfl rfl rfl (by decide +kernel) ⟨by first | exact Nat.le_of_ble_eq_true rfl | (simp only [headSpec]; omega), by first | exact Nat.le_of_ble_eq_true rfl | (simp only [headSpec]; omega)⟩ hK hP hD hS hA [] (by decide) rfl rfl rfl hl.1 (Nat.le_of_ble_eq_true rfl) dX8_onTree_58 ⟨Nat.zero_le _, Nat.zero_le _⟩ (fun hp5 H locs hP hS => ?_)
      obtain ⟨x6, hx6, h⟩ := bd_e h
      try dsimp only at h
      refine k_VlM (n := 1) (As := [.int x5]) (rest := [.long vL41_5]) hx hb hml hown hts (c_X8_numberOfNode l G cI cJ cD cH H.size h_t h_t_desk h_t_numbers h_t_desk_powers h_t_numbers_keys h_t_numbers_aboves h_t_imageDesk h_t_deeds h_t_tape h_t_reader h_t_speller h_t_holders h_t_numbers_rounds t_imageKept t_desk_genus t_desk_size t_desk_limit t_desk_tree t_numbers_round vL41_2 vL41_3 vL41_4 a_t_desk_powers vL41_0 vL41_1 x5 (x6.1) (x6.2.1) (x6.2.2.1) (x6.2.2.2.1) (x6.2.2.2.2.1) (x6.2.2.2.2.2) hx6) gX8_onTree_X8_numberOfNode rfl rfl rfl (by decide +kernel) ⟨by first | exact Nat.le_of_ble_eq_true rfl | (simp only [headSpec]; omega), by first | exact Nat.le_of_ble_eq_true rfl | (simp only [headSpec]; omega)⟩ hK hP hD hS hA [0, 1, 2, 3, 4, 5] (by decide) rfl rfl (ci := 7) rfl rfl rfl rfl rfl hl.1 (Nat.le_of_ble_eq_true rfl) dX8_onTree_61 ⟨Nat.zero_le _, Nat.zero_le _⟩ [(h_t, .inr (7, [.ref h_t_desk, .ref h_t_imageDesk, .ref h_t_deeds, .ref h_t_numbers, .ref h_t_tape, .ref h_t_reader, .ref h_t_speller, .ref h_t_holders, .int t_imageKept])), (h_t_desk, .inr (1, [.int t_desk_genus, .int t_desk_size, .ref h_t_desk_powers, .int t_desk_limit, .long t_desk_tree])), (h_t_numbers, .inr (3, [.ref h_t_numbers_keys, .ref h_t_numbers_aboves, .ref h_t_numbers_rounds, .int t_numbers_round, .int (x6.2.2.2.1), .int (x6.2.2.2.2.1), .long (x6.2.2.2.2.2)])), (h_t_desk_powers, .inl (cI, 8, .inl a_t_desk_powers)), (h_t_numbers_keys, .inl (cJ, 1024, .inr (.inl (x6.2.1)))), (h_t_numbers_aboves, .inl (cJ, 1024, .inr (.inl (x6.2.2.1))))] [1, 2, 3, 4, 5, 6] 6 (by decide +kernel) rfl rfl rfl (fun hp6 H locs hP hD hS => ?_)
      refine lv_lmul hx hb dX8_onTree_64 ?_
      refine lv_lstore_n (lv' := [(1, .long (vL41_5 * (x6.1))), (0, .ref h_t), (3, .int x3), (4, .int vL41_6)]) hx hb dX8_onTree_65 rfl hl (by decide) rfl (fun ls hl => ?_)
      refine lv_iinc (v := (vL41_6 + (1 : Int32))) (lv' := [(4, .int (vL41_6 + (1 : Int32))), (1, .long (vL41_5 * (x6.1))), (0, .ref h_t), (3, .int x3)]) hx hb dX8_onTree_66 hl (k := 3) rfl (by first | rfl | decide) (by decide) rfl (fun ls hl => ?_)
      refine lv_goto (tgt := 41) hx hb dX8_onTree_69 (by decide) ?_
      exact ih41 (x6.2.1) (x6.2.2.1) (x6.2.2.2.1) (x6.2.2.2.2.1) (x6.2.2.2.2.2) (vL41_5 * (x6.1)) (vL41_6 + (1 : Int32)) _ _ _ hP hD hS (lv_sub hl [2, 1, 3, 0] rfl) h
  exact hL41 FU (x2.2.1) (x2.2.2.1) (x2.2.2.2.1) (x2.2.2.2.2.1) (x2.2.2.2.2.2) (x2.1) (0 : Int32) _ _ _ hP hD hS (lv_sub hl [3, 2, 1, 0] rfl) h

/-! X8_undo -/
set_option maxHeartbeats 40000000 in
set_option maxRecDepth 100000 in
theorem c_X8_undo (l : Launch) (G : va_G) (cI cJ cD cH : ClassId) (sz : Nat) (h_t : Nat) (h_t_deeds : Nat) (h_t_desk : Nat) (h_t_deeds_desks : Nat) (h_t_desk_powers : Nat) (h_t_imageDesk : Nat) (h_t_numbers : Nat) (h_t_tape : Nat) (h_t_reader : Nat) (h_t_speller : Nat) (h_t_holders : Nat) (d_t_deeds_desks : Nat → Nat) (q_t_deeds_desks : Nat → Nat) (a_t_deeds_desks : Nat → Nat → Int32) (t_deeds_desks_genus : Nat → Int32) (t_deeds_desks_size : Nat → Int32) (t_deeds_desks_limit : Nat → Int32) (t_deeds_desks_tree : Nat → Int64) (t_imageKept : Int32) (t_deeds_now : Int32) (t_deeds_last : Int32) (t_desk_genus : Int32) (t_desk_size : Int32) (t_desk_limit : Int32) (t_desk_tree : Int64) (a_t_desk_powers : Nat → Int32) (r0 : Int32) (w0 : Nat → Int32) (w1 : Int32) (w2 : Int32) (w3 : Int32) (w4 : Int32) (w5 : Int64) (hF : F_X8_undo a_t_deeds_desks t_deeds_desks_genus t_deeds_desks_size t_deeds_desks_limit t_deeds_desks_tree t_deeds_now t_desk_genus t_desk_size t_desk_limit t_desk_tree a_t_desk_powers = some (r0, w0, w1, w2, w3, w4, w5)) : Met l yX8_undo wsX8_undo ({ frames := 2, cells := 0, slots := 0, locals := 43 }) (k_pre G (k_T cI cJ cD cH) [(h_t, .inr (7, [.ref h_t_desk, .ref h_t_imageDesk, .ref h_t_deeds, .ref h_t_numbers, .ref h_t_tape, .ref h_t_reader, .ref h_t_speller, .ref h_t_holders, .int t_imageKept])), (h_t_deeds, .inr (0, [.ref h_t_deeds_desks, .int t_deeds_now, .int t_deeds_last])), (h_t_desk, .inr (1, [.int t_desk_genus, .int t_desk_size, .ref h_t_desk_powers, .int t_desk_limit, .long t_desk_tree])), (h_t_deeds_desks, .inl (cD, 9, .inr (.inr (.inr (.inr (fun i => some (d_t_deeds_desks i))))))), ((d_t_deeds_desks 0), .inr (1, [.int (t_deeds_desks_genus 0), .int (t_deeds_desks_size 0), .ref (q_t_deeds_desks 0), .int (t_deeds_desks_limit 0), .long (t_deeds_desks_tree 0)])), ((q_t_deeds_desks 0), .inl (cI, 8, .inl (a_t_deeds_desks 0))), ((d_t_deeds_desks 1), .inr (1, [.int (t_deeds_desks_genus 1), .int (t_deeds_desks_size 1), .ref (q_t_deeds_desks 1), .int (t_deeds_desks_limit 1), .long (t_deeds_desks_tree 1)])), ((q_t_deeds_desks 1), .inl (cI, 8, .inl (a_t_deeds_desks 1))), ((d_t_deeds_desks 2), .inr (1, [.int (t_deeds_desks_genus 2), .int (t_deeds_desks_size 2), .ref (q_t_deeds_desks 2), .int (t_deeds_desks_limit 2), .long (t_deeds_desks_tree 2)])), ((q_t_deeds_desks 2), .inl (cI, 8, .inl (a_t_deeds_desks 2))), ((d_t_deeds_desks 3), .inr (1, [.int (t_deeds_desks_genus 3), .int (t_deeds_desks_size 3), .ref (q_t_deeds_desks 3), .int (t_deeds_desks_limit 3), .long (t_deeds_desks_tree 3)])), ((q_t_deeds_desks 3), .inl (cI, 8, .inl (a_t_deeds_desks 3))), ((d_t_deeds_desks 4), .inr (1, [.int (t_deeds_desks_genus 4), .int (t_deeds_desks_size 4), .ref (q_t_deeds_desks 4), .int (t_deeds_desks_limit 4), .long (t_deeds_desks_tree 4)])), ((q_t_deeds_desks 4), .inl (cI, 8, .inl (a_t_deeds_desks 4))), ((d_t_deeds_desks 5), .inr (1, [.int (t_deeds_desks_genus 5), .int (t_deeds_desks_size 5), .ref (q_t_deeds_desks 5), .int (t_deeds_desks_limit 5), .long (t_deeds_desks_tree 5)])), ((q_t_deeds_desks 5), .inl (cI, 8, .inl (a_t_deeds_desks 5))), ((d_t_deeds_desks 6), .inr (1, [.int (t_deeds_desks_genus 6), .int (t_deeds_desks_size 6), .ref (q_t_deeds_desks 6), .int (t_deeds_desks_limit 6), .long (t_deeds_desks_tree 6)])), ((q_t_deeds_desks 6), .inl (cI, 8, .inl (a_t_deeds_desks 6))), ((d_t_deeds_desks 7), .inr (1, [.int (t_deeds_desks_genus 7), .int (t_deeds_desks_size 7), .ref (q_t_deeds_desks 7), .int (t_deeds_desks_limit 7), .long (t_deeds_desks_tree 7)])), ((q_t_deeds_desks 7), .inl (cI, 8, .inl (a_t_deeds_desks 7))), ((d_t_deeds_desks 8), .inr (1, [.int (t_deeds_desks_genus 8), .int (t_deeds_desks_size 8), .ref (q_t_deeds_desks 8), .int (t_deeds_desks_limit 8), .long (t_deeds_desks_tree 8)])), ((q_t_deeds_desks 8), .inl (cI, 8, .inl (a_t_deeds_desks 8))), (h_t_desk_powers, .inl (cI, 8, .inl a_t_desk_powers))] sz [.ref h_t]) (va_Qi (fun r (_ : Unit) => r = r0 ∧ True) (fun _ t => va_P G vwCl [(h_t, .inr (7, [.ref h_t_desk, .ref h_t_imageDesk, .ref h_t_deeds, .ref h_t_numbers, .ref h_t_tape, .ref h_t_reader, .ref h_t_speller, .ref h_t_holders, .int t_imageKept])), (h_t_deeds, .inr (0, [.ref h_t_deeds_desks, .int w1, .int t_deeds_last])), (h_t_desk, .inr (1, [.int w2, .int w3, .ref h_t_desk_powers, .int w4, .long w5])), (h_t_deeds_desks, .inl (cD, 9, .inr (.inr (.inr (.inr (fun i => some (d_t_deeds_desks i))))))), ((d_t_deeds_desks 0), .inr (1, [.int (t_deeds_desks_genus 0), .int (t_deeds_desks_size 0), .ref (q_t_deeds_desks 0), .int (t_deeds_desks_limit 0), .long (t_deeds_desks_tree 0)])), ((q_t_deeds_desks 0), .inl (cI, 8, .inl (a_t_deeds_desks 0))), ((d_t_deeds_desks 1), .inr (1, [.int (t_deeds_desks_genus 1), .int (t_deeds_desks_size 1), .ref (q_t_deeds_desks 1), .int (t_deeds_desks_limit 1), .long (t_deeds_desks_tree 1)])), ((q_t_deeds_desks 1), .inl (cI, 8, .inl (a_t_deeds_desks 1))), ((d_t_deeds_desks 2), .inr (1, [.int (t_deeds_desks_genus 2), .int (t_deeds_desks_size 2), .ref (q_t_deeds_desks 2), .int (t_deeds_desks_limit 2), .long (t_deeds_desks_tree 2)])), ((q_t_deeds_desks 2), .inl (cI, 8, .inl (a_t_deeds_desks 2))), ((d_t_deeds_desks 3), .inr (1, [.int (t_deeds_desks_genus 3), .int (t_deeds_desks_size 3), .ref (q_t_deeds_desks 3), .int (t_deeds_desks_limit 3), .long (t_deeds_desks_tree 3)])), ((q_t_deeds_desks 3), .inl (cI, 8, .inl (a_t_deeds_desks 3))), ((d_t_deeds_desks 4), .inr (1, [.int (t_deeds_desks_genus 4), .int (t_deeds_desks_size 4), .ref (q_t_deeds_desks 4), .int (t_deeds_desks_limit 4), .long (t_deeds_desks_tree 4)])), ((q_t_deeds_desks 4), .inl (cI, 8, .inl (a_t_deeds_desks 4))), ((d_t_deeds_desks 5), .inr (1, [.int (t_deeds_desks_genus 5), .int (t_deeds_desks_size 5), .ref (q_t_deeds_desks 5), .int (t_deeds_desks_limit 5), .long (t_deeds_desks_tree 5)])), ((q_t_deeds_desks 5), .inl (cI, 8, .inl (a_t_deeds_desks 5))), ((d_t_deeds_desks 6), .inr (1, [.int (t_deeds_desks_genus 6), .int (t_deeds_desks_size 6), .ref (q_t_deeds_desks 6), .int (t_deeds_desks_limit 6), .long (t_deeds_desks_tree 6)])), ((q_t_deeds_desks 6), .inl (cI, 8, .inl (a_t_deeds_desks 6))), ((d_t_deeds_desks 7), .inr (1, [.int (t_deeds_desks_genus 7), .int (t_deeds_desks_size 7), .ref (q_t_deeds_desks 7), .int (t_deeds_desks_limit 7), .long (t_deeds_desks_tree 7)])), ((q_t_deeds_desks 7), .inl (cI, 8, .inl (a_t_deeds_desks 7))), ((d_t_deeds_desks 8), .inr (1, [.int (t_deeds_desks_genus 8), .int (t_deeds_desks_size 8), .ref (q_t_deeds_desks 8), .int (t_deeds_desks_limit 8), .long (t_deeds_desks_tree 8)])), ((q_t_deeds_desks 8), .inl (cI, 8, .inl (a_t_deeds_desks 8))), (h_t_desk_powers, .inl (cI, 8, .inl w0))] t.heap) (va_A [(h_t, .inr (7, [.ref h_t_desk, .ref h_t_imageDesk, .ref h_t_deeds, .ref h_t_numbers, .ref h_t_tape, .ref h_t_reader, .ref h_t_speller, .ref h_t_holders, .int t_imageKept])), (h_t_deeds, .inr (0, [.ref h_t_deeds_desks, .int t_deeds_now, .int t_deeds_last])), (h_t_desk, .inr (1, [.int t_desk_genus, .int t_desk_size, .ref h_t_desk_powers, .int t_desk_limit, .long t_desk_tree])), (h_t_deeds_desks, .inl (cD, 9, .inr (.inr (.inr (.inr (fun i => some (d_t_deeds_desks i))))))), ((d_t_deeds_desks 0), .inr (1, [.int (t_deeds_desks_genus 0), .int (t_deeds_desks_size 0), .ref (q_t_deeds_desks 0), .int (t_deeds_desks_limit 0), .long (t_deeds_desks_tree 0)])), ((q_t_deeds_desks 0), .inl (cI, 8, .inl (a_t_deeds_desks 0))), ((d_t_deeds_desks 1), .inr (1, [.int (t_deeds_desks_genus 1), .int (t_deeds_desks_size 1), .ref (q_t_deeds_desks 1), .int (t_deeds_desks_limit 1), .long (t_deeds_desks_tree 1)])), ((q_t_deeds_desks 1), .inl (cI, 8, .inl (a_t_deeds_desks 1))), ((d_t_deeds_desks 2), .inr (1, [.int (t_deeds_desks_genus 2), .int (t_deeds_desks_size 2), .ref (q_t_deeds_desks 2), .int (t_deeds_desks_limit 2), .long (t_deeds_desks_tree 2)])), ((q_t_deeds_desks 2), .inl (cI, 8, .inl (a_t_deeds_desks 2))), ((d_t_deeds_desks 3), .inr (1, [.int (t_deeds_desks_genus 3), .int (t_deeds_desks_size 3), .ref (q_t_deeds_desks 3), .int (t_deeds_desks_limit 3), .long (t_deeds_desks_tree 3)])), ((q_t_deeds_desks 3), .inl (cI, 8, .inl (a_t_deeds_desks 3))), ((d_t_deeds_desks 4), .inr (1, [.int (t_deeds_desks_genus 4), .int (t_deeds_desks_size 4), .ref (q_t_deeds_desks 4), .int (t_deeds_desks_limit 4), .long (t_deeds_desks_tree 4)])), ((q_t_deeds_desks 4), .inl (cI, 8, .inl (a_t_deeds_desks 4))), ((d_t_deeds_desks 5), .inr (1, [.int (t_deeds_desks_genus 5), .int (t_deeds_desks_size 5), .ref (q_t_deeds_desks 5), .int (t_deeds_desks_limit 5), .long (t_deeds_desks_tree 5)])), ((q_t_deeds_desks 5), .inl (cI, 8, .inl (a_t_deeds_desks 5))), ((d_t_deeds_desks 6), .inr (1, [.int (t_deeds_desks_genus 6), .int (t_deeds_desks_size 6), .ref (q_t_deeds_desks 6), .int (t_deeds_desks_limit 6), .long (t_deeds_desks_tree 6)])), ((q_t_deeds_desks 6), .inl (cI, 8, .inl (a_t_deeds_desks 6))), ((d_t_deeds_desks 7), .inr (1, [.int (t_deeds_desks_genus 7), .int (t_deeds_desks_size 7), .ref (q_t_deeds_desks 7), .int (t_deeds_desks_limit 7), .long (t_deeds_desks_tree 7)])), ((q_t_deeds_desks 7), .inl (cI, 8, .inl (a_t_deeds_desks 7))), ((d_t_deeds_desks 8), .inr (1, [.int (t_deeds_desks_genus 8), .int (t_deeds_desks_size 8), .ref (q_t_deeds_desks 8), .int (t_deeds_desks_limit 8), .long (t_deeds_desks_tree 8)])), ((q_t_deeds_desks 8), .inl (cI, 8, .inl (a_t_deeds_desks 8))), (h_t_desk_powers, .inl (cI, 8, .inl a_t_desk_powers))] sz)) 0 0 (va_A [(h_t, .inr (7, [.ref h_t_desk, .ref h_t_imageDesk, .ref h_t_deeds, .ref h_t_numbers, .ref h_t_tape, .ref h_t_reader, .ref h_t_speller, .ref h_t_holders, .int t_imageKept])), (h_t_deeds, .inr (0, [.ref h_t_deeds_desks, .int t_deeds_now, .int t_deeds_last])), (h_t_desk, .inr (1, [.int t_desk_genus, .int t_desk_size, .ref h_t_desk_powers, .int t_desk_limit, .long t_desk_tree])), (h_t_deeds_desks, .inl (cD, 9, .inr (.inr (.inr (.inr (fun i => some (d_t_deeds_desks i))))))), ((d_t_deeds_desks 0), .inr (1, [.int (t_deeds_desks_genus 0), .int (t_deeds_desks_size 0), .ref (q_t_deeds_desks 0), .int (t_deeds_desks_limit 0), .long (t_deeds_desks_tree 0)])), ((q_t_deeds_desks 0), .inl (cI, 8, .inl (a_t_deeds_desks 0))), ((d_t_deeds_desks 1), .inr (1, [.int (t_deeds_desks_genus 1), .int (t_deeds_desks_size 1), .ref (q_t_deeds_desks 1), .int (t_deeds_desks_limit 1), .long (t_deeds_desks_tree 1)])), ((q_t_deeds_desks 1), .inl (cI, 8, .inl (a_t_deeds_desks 1))), ((d_t_deeds_desks 2), .inr (1, [.int (t_deeds_desks_genus 2), .int (t_deeds_desks_size 2), .ref (q_t_deeds_desks 2), .int (t_deeds_desks_limit 2), .long (t_deeds_desks_tree 2)])), ((q_t_deeds_desks 2), .inl (cI, 8, .inl (a_t_deeds_desks 2))), ((d_t_deeds_desks 3), .inr (1, [.int (t_deeds_desks_genus 3), .int (t_deeds_desks_size 3), .ref (q_t_deeds_desks 3), .int (t_deeds_desks_limit 3), .long (t_deeds_desks_tree 3)])), ((q_t_deeds_desks 3), .inl (cI, 8, .inl (a_t_deeds_desks 3))), ((d_t_deeds_desks 4), .inr (1, [.int (t_deeds_desks_genus 4), .int (t_deeds_desks_size 4), .ref (q_t_deeds_desks 4), .int (t_deeds_desks_limit 4), .long (t_deeds_desks_tree 4)])), ((q_t_deeds_desks 4), .inl (cI, 8, .inl (a_t_deeds_desks 4))), ((d_t_deeds_desks 5), .inr (1, [.int (t_deeds_desks_genus 5), .int (t_deeds_desks_size 5), .ref (q_t_deeds_desks 5), .int (t_deeds_desks_limit 5), .long (t_deeds_desks_tree 5)])), ((q_t_deeds_desks 5), .inl (cI, 8, .inl (a_t_deeds_desks 5))), ((d_t_deeds_desks 6), .inr (1, [.int (t_deeds_desks_genus 6), .int (t_deeds_desks_size 6), .ref (q_t_deeds_desks 6), .int (t_deeds_desks_limit 6), .long (t_deeds_desks_tree 6)])), ((q_t_deeds_desks 6), .inl (cI, 8, .inl (a_t_deeds_desks 6))), ((d_t_deeds_desks 7), .inr (1, [.int (t_deeds_desks_genus 7), .int (t_deeds_desks_size 7), .ref (q_t_deeds_desks 7), .int (t_deeds_desks_limit 7), .long (t_deeds_desks_tree 7)])), ((q_t_deeds_desks 7), .inl (cI, 8, .inl (a_t_deeds_desks 7))), ((d_t_deeds_desks 8), .inr (1, [.int (t_deeds_desks_genus 8), .int (t_deeds_desks_size 8), .ref (q_t_deeds_desks 8), .int (t_deeds_desks_limit 8), .long (t_deeds_desks_tree 8)])), ((q_t_deeds_desks 8), .inl (cI, 8, .inl (a_t_deeds_desks 8))), (h_t_desk_powers, .inl (cI, 8, .inl a_t_desk_powers))] sz) := by
  refine Met.ofW (cc := cX8_undo) (maxL := 1) (ret := (some .int)) (by decide) rfl ?_
  intro p e s m args below meth c s₁ B hml hv
  obtain ⟨rfl, hsz, hP, hK, hD0⟩ := hv
  have hx := B.exec
  have hb := B.bytes
  have hr := B.returns
  have hts := atoms_spec (ws := wsX8_undo) B.pre
  have hta : ∀ w ∈ wA, w.before ([.ref h_t] : List Value).toArray s = true := hta_of hts
  have hown : s.vm.findClass RX8 = some m.cls := findClass_of_methodNamed B.named
  have hlocks := B.notSynchronized
  subst hsz
  have hD := hD0.self (sz := s.heap.size)
  generalize hAe : va_A [(h_t, .inr (7, [.ref h_t_desk, .ref h_t_imageDesk, .ref h_t_deeds, .ref h_t_numbers, .ref h_t_tape, .ref h_t_reader, .ref h_t_speller, .ref h_t_holders, .int t_imageKept])), (h_t_deeds, .inr (0, [.ref h_t_deeds_desks, .int t_deeds_now, .int t_deeds_last])), (h_t_desk, .inr (1, [.int t_desk_genus, .int t_desk_size, .ref h_t_desk_powers, .int t_desk_limit, .long t_desk_tree])), (h_t_deeds_desks, .inl (cD, 9, .inr (.inr (.inr (.inr (fun i => some (d_t_deeds_desks i))))))), ((d_t_deeds_desks 0), .inr (1, [.int (t_deeds_desks_genus 0), .int (t_deeds_desks_size 0), .ref (q_t_deeds_desks 0), .int (t_deeds_desks_limit 0), .long (t_deeds_desks_tree 0)])), ((q_t_deeds_desks 0), .inl (cI, 8, .inl (a_t_deeds_desks 0))), ((d_t_deeds_desks 1), .inr (1, [.int (t_deeds_desks_genus 1), .int (t_deeds_desks_size 1), .ref (q_t_deeds_desks 1), .int (t_deeds_desks_limit 1), .long (t_deeds_desks_tree 1)])), ((q_t_deeds_desks 1), .inl (cI, 8, .inl (a_t_deeds_desks 1))), ((d_t_deeds_desks 2), .inr (1, [.int (t_deeds_desks_genus 2), .int (t_deeds_desks_size 2), .ref (q_t_deeds_desks 2), .int (t_deeds_desks_limit 2), .long (t_deeds_desks_tree 2)])), ((q_t_deeds_desks 2), .inl (cI, 8, .inl (a_t_deeds_desks 2))), ((d_t_deeds_desks 3), .inr (1, [.int (t_deeds_desks_genus 3), .int (t_deeds_desks_size 3), .ref (q_t_deeds_desks 3), .int (t_deeds_desks_limit 3), .long (t_deeds_desks_tree 3)])), ((q_t_deeds_desks 3), .inl (cI, 8, .inl (a_t_deeds_desks 3))), ((d_t_deeds_desks 4), .inr (1, [.int (t_deeds_desks_genus 4), .int (t_deeds_desks_size 4), .ref (q_t_deeds_desks 4), .int (t_deeds_desks_limit 4), .long (t_deeds_desks_tree 4)])), ((q_t_deeds_desks 4), .inl (cI, 8, .inl (a_t_deeds_desks 4))), ((d_t_deeds_desks 5), .inr (1, [.int (t_deeds_desks_genus 5), .int (t_deeds_desks_size 5), .ref (q_t_deeds_desks 5), .int (t_deeds_desks_limit 5), .long (t_deeds_desks_tree 5)])), ((q_t_deeds_desks 5), .inl (cI, 8, .inl (a_t_deeds_desks 5))), ((d_t_deeds_desks 6), .inr (1, [.int (t_deeds_desks_genus 6), .int (t_deeds_desks_size 6), .ref (q_t_deeds_desks 6), .int (t_deeds_desks_limit 6), .long (t_deeds_desks_tree 6)])), ((q_t_deeds_desks 6), .inl (cI, 8, .inl (a_t_deeds_desks 6))), ((d_t_deeds_desks 7), .inr (1, [.int (t_deeds_desks_genus 7), .int (t_deeds_desks_size 7), .ref (q_t_deeds_desks 7), .int (t_deeds_desks_limit 7), .long (t_deeds_desks_tree 7)])), ((q_t_deeds_desks 7), .inl (cI, 8, .inl (a_t_deeds_desks 7))), ((d_t_deeds_desks 8), .inr (1, [.int (t_deeds_desks_genus 8), .int (t_deeds_desks_size 8), .ref (q_t_deeds_desks 8), .int (t_deeds_desks_limit 8), .long (t_deeds_desks_tree 8)])), ((q_t_deeds_desks 8), .inl (cI, 8, .inl (a_t_deeds_desks 8))), (h_t_desk_powers, .inl (cI, 8, .inl a_t_desk_powers))] s.heap.size = A at hD ⊢
  have hA : ∀ q : Nat, s.heap.size ≤ q → A q := fun q h => by rw [← hAe]; exact Or.inr h
  have hS : va_S A s.heap s.heap [] := va_S.rf
  have hl := lv_entry ([.ref h_t]) (n := 1) (Nat.le_of_ble_eq_true rfl)
  rw [lg_entry_eq]
  generalize (lg_sl ([.ref h_t]) ++ List.replicate (1 - (lg_sl ([.ref h_t])).length) Slot.unset).toArray = ls at hl ⊢
  have hl : lv_has ls 1 [(0, .ref h_t)] := hl
  have hinX8 : ∀ w ∈ wsX80, w ∈ wsX8_undo := hin_of in_X8
  have h := hF
  unfold F_X8_undo at h
  refine lv_aload_n hx hb dX8_undo_0 rfl (lv_at hl 0 rfl) ?_
  refine va_get (D := G) (ci := 7) (v := .ref h_t_deeds) (C := RX8) (T := TX8) (N := 9) hx hb hts hinX8 hown hK hP 0 rfl rfl 2 (by decide) (hta _ mw_362) (fun _ h9 => h9) rfl dX8_undo_1 ?_
  obtain ⟨x1, hx1, h⟩ := bd_e h
  try dsimp only at h
  refine k_ViU (n := 0) (As := []) (rest := []) hx hb hml hown hts (c_X0_undoable l G cI cJ cD cH s.heap.size h_t_deeds h_t_deeds_desks t_deeds_now t_deeds_last x1 hx1) gX8_undo_X0_undoable rfl rfl rfl (by decide +kernel) ⟨by first | exact Nat.le_of_ble_eq_true rfl | (simp only [headSpec]; omega), by first | exact Nat.le_of_ble_eq_true rfl | (simp only [headSpec]; omega)⟩ hK hP hD hS hA [1] (by decide) rfl (ci := 0) rfl rfl rfl rfl rfl hl.1 (Nat.le_of_ble_eq_true rfl) dX8_undo_4 ⟨Nat.zero_le _, Nat.zero_le _⟩ (fun hp1 H locs hP hS => ?_)
  refine lv_if_ne (tgt := 13) hx hb dX8_undo_7 (by decide) (fun c2 => ?_) (fun c2 => ?_)
  rotate_left
  · have h := it_p h c2
    refine lv_bipush (v := (-5 : Int32)) hx hb dX8_undo_10 (by decide) ?_
    have h9 := Option.some.inj h
    have e9 : (-5 : Int32) = r0 := congrArg (fun z9 => z9.1) h9
    rw [← e9]
    have e9 : a_t_desk_powers = w0 := congrArg (fun z9 => z9.2.1) h9
    rw [← e9]
    have e9 : t_deeds_now = w1 := congrArg (fun z9 => z9.2.2.1) h9
    rw [← e9]
    have e9 : t_desk_genus = w2 := congrArg (fun z9 => z9.2.2.2.1) h9
    rw [← e9]
    have e9 : t_desk_size = w3 := congrArg (fun z9 => z9.2.2.2.2.1) h9
    rw [← e9]
    have e9 : t_desk_limit = w4 := congrArg (fun z9 => z9.2.2.2.2.2.1) h9
    rw [← e9]
    have e9 : t_desk_tree = w5 := congrArg (fun z9 => z9.2.2.2.2.2.2) h9
    rw [← e9]
    exact k_iret hx hb hr hlocks hP hS rfl dX8_undo_12
  have h := it_n h c2
  refine lv_aload_n hx hb dX8_undo_13 rfl (lv_at hl 0 rfl) ?_
  refine va_get (D := G) (ci := 7) (v := .ref h_t_deeds) (C := RX8) (T := TX8) (N := 9) hx hb hts hinX8 hown hK hP 0 rfl rfl 2 (by decide) (hta _ mw_362) (fun _ h9 => h9) rfl dX8_undo_14 ?_
  refine lv_aload_n hx hb dX8_undo_17 rfl (lv_at hl 0 rfl) ?_
  refine va_get (D := G) (ci := 7) (v := .ref h_t_desk) (C := RX8) (T := TX8) (N := 9) hx hb hts hinX8 hown hK hP 0 rfl rfl 0 (by decide) (hta _ mw_358) (fun _ h9 => h9) rfl dX8_undo_18 ?_
  obtain ⟨x3, hx3, h⟩ := bd_e h
  try dsimp only at h
  refine k_VvM (n := 1) (As := [.ref h_t_desk]) (rest := []) hx hb hml hown hts (c_X0_stepBack l G cI cJ cD cH H.size h_t_deeds h_t_desk h_t_deeds_desks h_t_desk_powers d_t_deeds_desks q_t_deeds_desks a_t_deeds_desks t_deeds_desks_genus t_deeds_desks_size t_deeds_desks_limit t_deeds_desks_tree t_deeds_now t_deeds_last t_desk_genus t_desk_size t_desk_limit t_desk_tree a_t_desk_powers (x3.1) (x3.2.1) (x3.2.2.1) (x3.2.2.2.1) (x3.2.2.2.2.1) (x3.2.2.2.2.2) hx3) gX8_undo_X0_stepBack rfl rfl rfl (by decide +kernel) ⟨by first | exact Nat.le_of_ble_eq_true rfl | (simp only [headSpec]; omega), by first | exact Nat.le_of_ble_eq_true rfl | (simp only [headSpec]; omega)⟩ hK hP hD hS hA [1, 2, 3, 4, 5, 6, 7, 8, 9, 10, 11, 12, 13, 14, 15, 16, 17, 18, 19, 20, 21, 22] (by decide) rfl rfl (ci := 0) rfl rfl rfl rfl rfl hl.1 (Nat.le_of_ble_eq_true rfl) dX8_undo_21 ⟨Nat.zero_le _, Nat.zero_le _⟩ [(h_t, .inr (7, [.ref h_t_desk, .ref h_t_imageDesk, .ref h_t_deeds, .ref h_t_numbers, .ref h_t_tape, .ref h_t_reader, .ref h_t_speller, .ref h_t_holders, .int t_imageKept])), (h_t_deeds, .inr (0, [.ref h_t_deeds_desks, .int (x3.2.1), .int t_deeds_last])), (h_t_desk, .inr (1, [.int (x3.2.2.1), .int (x3.2.2.2.1), .ref h_t_desk_powers, .int (x3.2.2.2.2.1), .long (x3.2.2.2.2.2)])), (h_t_deeds_desks, .inl (cD, 9, .inr (.inr (.inr (.inr (fun i => some (d_t_deeds_desks i))))))), ((d_t_deeds_desks 0), .inr (1, [.int (t_deeds_desks_genus 0), .int (t_deeds_desks_size 0), .ref (q_t_deeds_desks 0), .int (t_deeds_desks_limit 0), .long (t_deeds_desks_tree 0)])), ((q_t_deeds_desks 0), .inl (cI, 8, .inl (a_t_deeds_desks 0))), ((d_t_deeds_desks 1), .inr (1, [.int (t_deeds_desks_genus 1), .int (t_deeds_desks_size 1), .ref (q_t_deeds_desks 1), .int (t_deeds_desks_limit 1), .long (t_deeds_desks_tree 1)])), ((q_t_deeds_desks 1), .inl (cI, 8, .inl (a_t_deeds_desks 1))), ((d_t_deeds_desks 2), .inr (1, [.int (t_deeds_desks_genus 2), .int (t_deeds_desks_size 2), .ref (q_t_deeds_desks 2), .int (t_deeds_desks_limit 2), .long (t_deeds_desks_tree 2)])), ((q_t_deeds_desks 2), .inl (cI, 8, .inl (a_t_deeds_desks 2))), ((d_t_deeds_desks 3), .inr (1, [.int (t_deeds_desks_genus 3), .int (t_deeds_desks_size 3), .ref (q_t_deeds_desks 3), .int (t_deeds_desks_limit 3), .long (t_deeds_desks_tree 3)])), ((q_t_deeds_desks 3), .inl (cI, 8, .inl (a_t_deeds_desks 3))), ((d_t_deeds_desks 4), .inr (1, [.int (t_deeds_desks_genus 4), .int (t_deeds_desks_size 4), .ref (q_t_deeds_desks 4), .int (t_deeds_desks_limit 4), .long (t_deeds_desks_tree 4)])), ((q_t_deeds_desks 4), .inl (cI, 8, .inl (a_t_deeds_desks 4))), ((d_t_deeds_desks 5), .inr (1, [.int (t_deeds_desks_genus 5), .int (t_deeds_desks_size 5), .ref (q_t_deeds_desks 5), .int (t_deeds_desks_limit 5), .long (t_deeds_desks_tree 5)])), ((q_t_deeds_desks 5), .inl (cI, 8, .inl (a_t_deeds_desks 5))), ((d_t_deeds_desks 6), .inr (1, [.int (t_deeds_desks_genus 6), .int (t_deeds_desks_size 6), .ref (q_t_deeds_desks 6), .int (t_deeds_desks_limit 6), .long (t_deeds_desks_tree 6)])), ((q_t_deeds_desks 6), .inl (cI, 8, .inl (a_t_deeds_desks 6))), ((d_t_deeds_desks 7), .inr (1, [.int (t_deeds_desks_genus 7), .int (t_deeds_desks_size 7), .ref (q_t_deeds_desks 7), .int (t_deeds_desks_limit 7), .long (t_deeds_desks_tree 7)])), ((q_t_deeds_desks 7), .inl (cI, 8, .inl (a_t_deeds_desks 7))), ((d_t_deeds_desks 8), .inr (1, [.int (t_deeds_desks_genus 8), .int (t_deeds_desks_size 8), .ref (q_t_deeds_desks 8), .int (t_deeds_desks_limit 8), .long (t_deeds_desks_tree 8)])), ((q_t_deeds_desks 8), .inl (cI, 8, .inl (a_t_deeds_desks 8))), (h_t_desk_powers, .inl (cI, 8, .inl (x3.1)))] [0, 1, 2, 3, 4, 5, 6, 7, 8, 9, 10, 11, 12, 13, 14, 15, 16, 17, 18, 19, 20, 21, 22] 22 (by decide +kernel) rfl rfl rfl (fun hp3 H locs hP hD hS => ?_)
  refine lv_aload_n hx hb dX8_undo_24 rfl (lv_at hl 0 rfl) ?_
  refine va_get (D := G) (ci := 7) (v := .ref h_t_deeds) (C := RX8) (T := TX8) (N := 9) hx hb hts hinX8 hown hK hP 0 rfl rfl 2 (by decide) (hta _ mw_362) (fun _ h9 => h9) rfl dX8_undo_25 ?_
  obtain ⟨x4, hx4, h⟩ := bd_e h
  try dsimp only at h
  refine k_ViU (n := 0) (As := []) (rest := []) hx hb hml hown hts (c_X0_undoable l G cI cJ cD cH H.size h_t_deeds h_t_deeds_desks (x3.2.1) t_deeds_last x4 hx4) gX8_undo_X0_undoable rfl rfl rfl (by decide +kernel) ⟨by first | exact Nat.le_of_ble_eq_true rfl | (simp only [headSpec]; omega), by first | exact Nat.le_of_ble_eq_true rfl | (simp only [headSpec]; omega)⟩ hK hP hD hS hA [1] (by decide) rfl (ci := 0) rfl rfl rfl rfl rfl hl.1 (Nat.le_of_ble_eq_true rfl) dX8_undo_28 ⟨Nat.zero_le _, Nat.zero_le _⟩ (fun hp4 H locs hP hS => ?_)
  have h9 := Option.some.inj h
  have e9 : x4 = r0 := congrArg (fun z9 => z9.1) h9
  rw [← e9]
  have e9 : (x3.1) = w0 := congrArg (fun z9 => z9.2.1) h9
  rw [← e9]
  have e9 : (x3.2.1) = w1 := congrArg (fun z9 => z9.2.2.1) h9
  rw [← e9]
  have e9 : (x3.2.2.1) = w2 := congrArg (fun z9 => z9.2.2.2.1) h9
  rw [← e9]
  have e9 : (x3.2.2.2.1) = w3 := congrArg (fun z9 => z9.2.2.2.2.1) h9
  rw [← e9]
  have e9 : (x3.2.2.2.2.1) = w4 := congrArg (fun z9 => z9.2.2.2.2.2.1) h9
  rw [← e9]
  have e9 : (x3.2.2.2.2.2) = w5 := congrArg (fun z9 => z9.2.2.2.2.2.2) h9
  rw [← e9]
  exact k_iret hx hb hr hlocks hP hS rfl dX8_undo_31

/-! X8_again -/
set_option maxHeartbeats 40000000 in
set_option maxRecDepth 100000 in
theorem c_X8_again (l : Launch) (G : va_G) (cI cJ cD cH : ClassId) (sz : Nat) (h_t : Nat) (h_t_deeds : Nat) (h_t_desk : Nat) (h_t_deeds_desks : Nat) (h_t_desk_powers : Nat) (h_t_imageDesk : Nat) (h_t_numbers : Nat) (h_t_tape : Nat) (h_t_reader : Nat) (h_t_speller : Nat) (h_t_holders : Nat) (d_t_deeds_desks : Nat → Nat) (q_t_deeds_desks : Nat → Nat) (a_t_deeds_desks : Nat → Nat → Int32) (t_deeds_desks_genus : Nat → Int32) (t_deeds_desks_size : Nat → Int32) (t_deeds_desks_limit : Nat → Int32) (t_deeds_desks_tree : Nat → Int64) (t_imageKept : Int32) (t_deeds_now : Int32) (t_deeds_last : Int32) (t_desk_genus : Int32) (t_desk_size : Int32) (t_desk_limit : Int32) (t_desk_tree : Int64) (a_t_desk_powers : Nat → Int32) (r0 : Int32) (w0 : Nat → Int32) (w1 : Int32) (w2 : Int32) (w3 : Int32) (w4 : Int32) (w5 : Int64) (hF : F_X8_again a_t_deeds_desks t_deeds_desks_genus t_deeds_desks_size t_deeds_desks_limit t_deeds_desks_tree t_deeds_now t_deeds_last t_desk_genus t_desk_size t_desk_limit t_desk_tree a_t_desk_powers = some (r0, w0, w1, w2, w3, w4, w5)) : Met l yX8_again wsX8_again ({ frames := 2, cells := 0, slots := 0, locals := 43 }) (k_pre G (k_T cI cJ cD cH) [(h_t, .inr (7, [.ref h_t_desk, .ref h_t_imageDesk, .ref h_t_deeds, .ref h_t_numbers, .ref h_t_tape, .ref h_t_reader, .ref h_t_speller, .ref h_t_holders, .int t_imageKept])), (h_t_deeds, .inr (0, [.ref h_t_deeds_desks, .int t_deeds_now, .int t_deeds_last])), (h_t_desk, .inr (1, [.int t_desk_genus, .int t_desk_size, .ref h_t_desk_powers, .int t_desk_limit, .long t_desk_tree])), (h_t_deeds_desks, .inl (cD, 9, .inr (.inr (.inr (.inr (fun i => some (d_t_deeds_desks i))))))), ((d_t_deeds_desks 0), .inr (1, [.int (t_deeds_desks_genus 0), .int (t_deeds_desks_size 0), .ref (q_t_deeds_desks 0), .int (t_deeds_desks_limit 0), .long (t_deeds_desks_tree 0)])), ((q_t_deeds_desks 0), .inl (cI, 8, .inl (a_t_deeds_desks 0))), ((d_t_deeds_desks 1), .inr (1, [.int (t_deeds_desks_genus 1), .int (t_deeds_desks_size 1), .ref (q_t_deeds_desks 1), .int (t_deeds_desks_limit 1), .long (t_deeds_desks_tree 1)])), ((q_t_deeds_desks 1), .inl (cI, 8, .inl (a_t_deeds_desks 1))), ((d_t_deeds_desks 2), .inr (1, [.int (t_deeds_desks_genus 2), .int (t_deeds_desks_size 2), .ref (q_t_deeds_desks 2), .int (t_deeds_desks_limit 2), .long (t_deeds_desks_tree 2)])), ((q_t_deeds_desks 2), .inl (cI, 8, .inl (a_t_deeds_desks 2))), ((d_t_deeds_desks 3), .inr (1, [.int (t_deeds_desks_genus 3), .int (t_deeds_desks_size 3), .ref (q_t_deeds_desks 3), .int (t_deeds_desks_limit 3), .long (t_deeds_desks_tree 3)])), ((q_t_deeds_desks 3), .inl (cI, 8, .inl (a_t_deeds_desks 3))), ((d_t_deeds_desks 4), .inr (1, [.int (t_deeds_desks_genus 4), .int (t_deeds_desks_size 4), .ref (q_t_deeds_desks 4), .int (t_deeds_desks_limit 4), .long (t_deeds_desks_tree 4)])), ((q_t_deeds_desks 4), .inl (cI, 8, .inl (a_t_deeds_desks 4))), ((d_t_deeds_desks 5), .inr (1, [.int (t_deeds_desks_genus 5), .int (t_deeds_desks_size 5), .ref (q_t_deeds_desks 5), .int (t_deeds_desks_limit 5), .long (t_deeds_desks_tree 5)])), ((q_t_deeds_desks 5), .inl (cI, 8, .inl (a_t_deeds_desks 5))), ((d_t_deeds_desks 6), .inr (1, [.int (t_deeds_desks_genus 6), .int (t_deeds_desks_size 6), .ref (q_t_deeds_desks 6), .int (t_deeds_desks_limit 6), .long (t_deeds_desks_tree 6)])), ((q_t_deeds_desks 6), .inl (cI, 8, .inl (a_t_deeds_desks 6))), ((d_t_deeds_desks 7), .inr (1, [.int (t_deeds_desks_genus 7), .int (t_deeds_desks_size 7), .ref (q_t_deeds_desks 7), .int (t_deeds_desks_limit 7), .long (t_deeds_desks_tree 7)])), ((q_t_deeds_desks 7), .inl (cI, 8, .inl (a_t_deeds_desks 7))), ((d_t_deeds_desks 8), .inr (1, [.int (t_deeds_desks_genus 8), .int (t_deeds_desks_size 8), .ref (q_t_deeds_desks 8), .int (t_deeds_desks_limit 8), .long (t_deeds_desks_tree 8)])), ((q_t_deeds_desks 8), .inl (cI, 8, .inl (a_t_deeds_desks 8))), (h_t_desk_powers, .inl (cI, 8, .inl a_t_desk_powers))] sz [.ref h_t]) (va_Qi (fun r (_ : Unit) => r = r0 ∧ True) (fun _ t => va_P G vwCl [(h_t, .inr (7, [.ref h_t_desk, .ref h_t_imageDesk, .ref h_t_deeds, .ref h_t_numbers, .ref h_t_tape, .ref h_t_reader, .ref h_t_speller, .ref h_t_holders, .int t_imageKept])), (h_t_deeds, .inr (0, [.ref h_t_deeds_desks, .int w1, .int t_deeds_last])), (h_t_desk, .inr (1, [.int w2, .int w3, .ref h_t_desk_powers, .int w4, .long w5])), (h_t_deeds_desks, .inl (cD, 9, .inr (.inr (.inr (.inr (fun i => some (d_t_deeds_desks i))))))), ((d_t_deeds_desks 0), .inr (1, [.int (t_deeds_desks_genus 0), .int (t_deeds_desks_size 0), .ref (q_t_deeds_desks 0), .int (t_deeds_desks_limit 0), .long (t_deeds_desks_tree 0)])), ((q_t_deeds_desks 0), .inl (cI, 8, .inl (a_t_deeds_desks 0))), ((d_t_deeds_desks 1), .inr (1, [.int (t_deeds_desks_genus 1), .int (t_deeds_desks_size 1), .ref (q_t_deeds_desks 1), .int (t_deeds_desks_limit 1), .long (t_deeds_desks_tree 1)])), ((q_t_deeds_desks 1), .inl (cI, 8, .inl (a_t_deeds_desks 1))), ((d_t_deeds_desks 2), .inr (1, [.int (t_deeds_desks_genus 2), .int (t_deeds_desks_size 2), .ref (q_t_deeds_desks 2), .int (t_deeds_desks_limit 2), .long (t_deeds_desks_tree 2)])), ((q_t_deeds_desks 2), .inl (cI, 8, .inl (a_t_deeds_desks 2))), ((d_t_deeds_desks 3), .inr (1, [.int (t_deeds_desks_genus 3), .int (t_deeds_desks_size 3), .ref (q_t_deeds_desks 3), .int (t_deeds_desks_limit 3), .long (t_deeds_desks_tree 3)])), ((q_t_deeds_desks 3), .inl (cI, 8, .inl (a_t_deeds_desks 3))), ((d_t_deeds_desks 4), .inr (1, [.int (t_deeds_desks_genus 4), .int (t_deeds_desks_size 4), .ref (q_t_deeds_desks 4), .int (t_deeds_desks_limit 4), .long (t_deeds_desks_tree 4)])), ((q_t_deeds_desks 4), .inl (cI, 8, .inl (a_t_deeds_desks 4))), ((d_t_deeds_desks 5), .inr (1, [.int (t_deeds_desks_genus 5), .int (t_deeds_desks_size 5), .ref (q_t_deeds_desks 5), .int (t_deeds_desks_limit 5), .long (t_deeds_desks_tree 5)])), ((q_t_deeds_desks 5), .inl (cI, 8, .inl (a_t_deeds_desks 5))), ((d_t_deeds_desks 6), .inr (1, [.int (t_deeds_desks_genus 6), .int (t_deeds_desks_size 6), .ref (q_t_deeds_desks 6), .int (t_deeds_desks_limit 6), .long (t_deeds_desks_tree 6)])), ((q_t_deeds_desks 6), .inl (cI, 8, .inl (a_t_deeds_desks 6))), ((d_t_deeds_desks 7), .inr (1, [.int (t_deeds_desks_genus 7), .int (t_deeds_desks_size 7), .ref (q_t_deeds_desks 7), .int (t_deeds_desks_limit 7), .long (t_deeds_desks_tree 7)])), ((q_t_deeds_desks 7), .inl (cI, 8, .inl (a_t_deeds_desks 7))), ((d_t_deeds_desks 8), .inr (1, [.int (t_deeds_desks_genus 8), .int (t_deeds_desks_size 8), .ref (q_t_deeds_desks 8), .int (t_deeds_desks_limit 8), .long (t_deeds_desks_tree 8)])), ((q_t_deeds_desks 8), .inl (cI, 8, .inl (a_t_deeds_desks 8))), (h_t_desk_powers, .inl (cI, 8, .inl w0))] t.heap) (va_A [(h_t, .inr (7, [.ref h_t_desk, .ref h_t_imageDesk, .ref h_t_deeds, .ref h_t_numbers, .ref h_t_tape, .ref h_t_reader, .ref h_t_speller, .ref h_t_holders, .int t_imageKept])), (h_t_deeds, .inr (0, [.ref h_t_deeds_desks, .int t_deeds_now, .int t_deeds_last])), (h_t_desk, .inr (1, [.int t_desk_genus, .int t_desk_size, .ref h_t_desk_powers, .int t_desk_limit, .long t_desk_tree])), (h_t_deeds_desks, .inl (cD, 9, .inr (.inr (.inr (.inr (fun i => some (d_t_deeds_desks i))))))), ((d_t_deeds_desks 0), .inr (1, [.int (t_deeds_desks_genus 0), .int (t_deeds_desks_size 0), .ref (q_t_deeds_desks 0), .int (t_deeds_desks_limit 0), .long (t_deeds_desks_tree 0)])), ((q_t_deeds_desks 0), .inl (cI, 8, .inl (a_t_deeds_desks 0))), ((d_t_deeds_desks 1), .inr (1, [.int (t_deeds_desks_genus 1), .int (t_deeds_desks_size 1), .ref (q_t_deeds_desks 1), .int (t_deeds_desks_limit 1), .long (t_deeds_desks_tree 1)])), ((q_t_deeds_desks 1), .inl (cI, 8, .inl (a_t_deeds_desks 1))), ((d_t_deeds_desks 2), .inr (1, [.int (t_deeds_desks_genus 2), .int (t_deeds_desks_size 2), .ref (q_t_deeds_desks 2), .int (t_deeds_desks_limit 2), .long (t_deeds_desks_tree 2)])), ((q_t_deeds_desks 2), .inl (cI, 8, .inl (a_t_deeds_desks 2))), ((d_t_deeds_desks 3), .inr (1, [.int (t_deeds_desks_genus 3), .int (t_deeds_desks_size 3), .ref (q_t_deeds_desks 3), .int (t_deeds_desks_limit 3), .long (t_deeds_desks_tree 3)])), ((q_t_deeds_desks 3), .inl (cI, 8, .inl (a_t_deeds_desks 3))), ((d_t_deeds_desks 4), .inr (1, [.int (t_deeds_desks_genus 4), .int (t_deeds_desks_size 4), .ref (q_t_deeds_desks 4), .int (t_deeds_desks_limit 4), .long (t_deeds_desks_tree 4)])), ((q_t_deeds_desks 4), .inl (cI, 8, .inl (a_t_deeds_desks 4))), ((d_t_deeds_desks 5), .inr (1, [.int (t_deeds_desks_genus 5), .int (t_deeds_desks_size 5), .ref (q_t_deeds_desks 5), .int (t_deeds_desks_limit 5), .long (t_deeds_desks_tree 5)])), ((q_t_deeds_desks 5), .inl (cI, 8, .inl (a_t_deeds_desks 5))), ((d_t_deeds_desks 6), .inr (1, [.int (t_deeds_desks_genus 6), .int (t_deeds_desks_size 6), .ref (q_t_deeds_desks 6), .int (t_deeds_desks_limit 6), .long (t_deeds_desks_tree 6)])), ((q_t_deeds_desks 6), .inl (cI, 8, .inl (a_t_deeds_desks 6))), ((d_t_deeds_desks 7), .inr (1, [.int (t_deeds_desks_genus 7), .int (t_deeds_desks_size 7), .ref (q_t_deeds_desks 7), .int (t_deeds_desks_limit 7), .long (t_deeds_desks_tree 7)])), ((q_t_deeds_desks 7), .inl (cI, 8, .inl (a_t_deeds_desks 7))), ((d_t_deeds_desks 8), .inr (1, [.int (t_deeds_desks_genus 8), .int (t_deeds_desks_size 8), .ref (q_t_deeds_desks 8), .int (t_deeds_desks_limit 8), .long (t_deeds_desks_tree 8)])), ((q_t_deeds_desks 8), .inl (cI, 8, .inl (a_t_deeds_desks 8))), (h_t_desk_powers, .inl (cI, 8, .inl a_t_desk_powers))] sz)) 0 0 (va_A [(h_t, .inr (7, [.ref h_t_desk, .ref h_t_imageDesk, .ref h_t_deeds, .ref h_t_numbers, .ref h_t_tape, .ref h_t_reader, .ref h_t_speller, .ref h_t_holders, .int t_imageKept])), (h_t_deeds, .inr (0, [.ref h_t_deeds_desks, .int t_deeds_now, .int t_deeds_last])), (h_t_desk, .inr (1, [.int t_desk_genus, .int t_desk_size, .ref h_t_desk_powers, .int t_desk_limit, .long t_desk_tree])), (h_t_deeds_desks, .inl (cD, 9, .inr (.inr (.inr (.inr (fun i => some (d_t_deeds_desks i))))))), ((d_t_deeds_desks 0), .inr (1, [.int (t_deeds_desks_genus 0), .int (t_deeds_desks_size 0), .ref (q_t_deeds_desks 0), .int (t_deeds_desks_limit 0), .long (t_deeds_desks_tree 0)])), ((q_t_deeds_desks 0), .inl (cI, 8, .inl (a_t_deeds_desks 0))), ((d_t_deeds_desks 1), .inr (1, [.int (t_deeds_desks_genus 1), .int (t_deeds_desks_size 1), .ref (q_t_deeds_desks 1), .int (t_deeds_desks_limit 1), .long (t_deeds_desks_tree 1)])), ((q_t_deeds_desks 1), .inl (cI, 8, .inl (a_t_deeds_desks 1))), ((d_t_deeds_desks 2), .inr (1, [.int (t_deeds_desks_genus 2), .int (t_deeds_desks_size 2), .ref (q_t_deeds_desks 2), .int (t_deeds_desks_limit 2), .long (t_deeds_desks_tree 2)])), ((q_t_deeds_desks 2), .inl (cI, 8, .inl (a_t_deeds_desks 2))), ((d_t_deeds_desks 3), .inr (1, [.int (t_deeds_desks_genus 3), .int (t_deeds_desks_size 3), .ref (q_t_deeds_desks 3), .int (t_deeds_desks_limit 3), .long (t_deeds_desks_tree 3)])), ((q_t_deeds_desks 3), .inl (cI, 8, .inl (a_t_deeds_desks 3))), ((d_t_deeds_desks 4), .inr (1, [.int (t_deeds_desks_genus 4), .int (t_deeds_desks_size 4), .ref (q_t_deeds_desks 4), .int (t_deeds_desks_limit 4), .long (t_deeds_desks_tree 4)])), ((q_t_deeds_desks 4), .inl (cI, 8, .inl (a_t_deeds_desks 4))), ((d_t_deeds_desks 5), .inr (1, [.int (t_deeds_desks_genus 5), .int (t_deeds_desks_size 5), .ref (q_t_deeds_desks 5), .int (t_deeds_desks_limit 5), .long (t_deeds_desks_tree 5)])), ((q_t_deeds_desks 5), .inl (cI, 8, .inl (a_t_deeds_desks 5))), ((d_t_deeds_desks 6), .inr (1, [.int (t_deeds_desks_genus 6), .int (t_deeds_desks_size 6), .ref (q_t_deeds_desks 6), .int (t_deeds_desks_limit 6), .long (t_deeds_desks_tree 6)])), ((q_t_deeds_desks 6), .inl (cI, 8, .inl (a_t_deeds_desks 6))), ((d_t_deeds_desks 7), .inr (1, [.int (t_deeds_desks_genus 7), .int (t_deeds_desks_size 7), .ref (q_t_deeds_desks 7), .int (t_deeds_desks_limit 7), .long (t_deeds_desks_tree 7)])), ((q_t_deeds_desks 7), .inl (cI, 8, .inl (a_t_deeds_desks 7))), ((d_t_deeds_desks 8), .inr (1, [.int (t_deeds_desks_genus 8), .int (t_deeds_desks_size 8), .ref (q_t_deeds_desks 8), .int (t_deeds_desks_limit 8), .long (t_deeds_desks_tree 8)])), ((q_t_deeds_desks 8), .inl (cI, 8, .inl (a_t_deeds_desks 8))), (h_t_desk_powers, .inl (cI, 8, .inl a_t_desk_powers))] sz) := by
  refine Met.ofW (cc := cX8_again) (maxL := 1) (ret := (some .int)) (by decide) rfl ?_
  intro p e s m args below meth c s₁ B hml hv
  obtain ⟨rfl, hsz, hP, hK, hD0⟩ := hv
  have hx := B.exec
  have hb := B.bytes
  have hr := B.returns
  have hts := atoms_spec (ws := wsX8_again) B.pre
  have hta : ∀ w ∈ wA, w.before ([.ref h_t] : List Value).toArray s = true := hta_of hts
  have hown : s.vm.findClass RX8 = some m.cls := findClass_of_methodNamed B.named
  have hlocks := B.notSynchronized
  subst hsz
  have hD := hD0.self (sz := s.heap.size)
  generalize hAe : va_A [(h_t, .inr (7, [.ref h_t_desk, .ref h_t_imageDesk, .ref h_t_deeds, .ref h_t_numbers, .ref h_t_tape, .ref h_t_reader, .ref h_t_speller, .ref h_t_holders, .int t_imageKept])), (h_t_deeds, .inr (0, [.ref h_t_deeds_desks, .int t_deeds_now, .int t_deeds_last])), (h_t_desk, .inr (1, [.int t_desk_genus, .int t_desk_size, .ref h_t_desk_powers, .int t_desk_limit, .long t_desk_tree])), (h_t_deeds_desks, .inl (cD, 9, .inr (.inr (.inr (.inr (fun i => some (d_t_deeds_desks i))))))), ((d_t_deeds_desks 0), .inr (1, [.int (t_deeds_desks_genus 0), .int (t_deeds_desks_size 0), .ref (q_t_deeds_desks 0), .int (t_deeds_desks_limit 0), .long (t_deeds_desks_tree 0)])), ((q_t_deeds_desks 0), .inl (cI, 8, .inl (a_t_deeds_desks 0))), ((d_t_deeds_desks 1), .inr (1, [.int (t_deeds_desks_genus 1), .int (t_deeds_desks_size 1), .ref (q_t_deeds_desks 1), .int (t_deeds_desks_limit 1), .long (t_deeds_desks_tree 1)])), ((q_t_deeds_desks 1), .inl (cI, 8, .inl (a_t_deeds_desks 1))), ((d_t_deeds_desks 2), .inr (1, [.int (t_deeds_desks_genus 2), .int (t_deeds_desks_size 2), .ref (q_t_deeds_desks 2), .int (t_deeds_desks_limit 2), .long (t_deeds_desks_tree 2)])), ((q_t_deeds_desks 2), .inl (cI, 8, .inl (a_t_deeds_desks 2))), ((d_t_deeds_desks 3), .inr (1, [.int (t_deeds_desks_genus 3), .int (t_deeds_desks_size 3), .ref (q_t_deeds_desks 3), .int (t_deeds_desks_limit 3), .long (t_deeds_desks_tree 3)])), ((q_t_deeds_desks 3), .inl (cI, 8, .inl (a_t_deeds_desks 3))), ((d_t_deeds_desks 4), .inr (1, [.int (t_deeds_desks_genus 4), .int (t_deeds_desks_size 4), .ref (q_t_deeds_desks 4), .int (t_deeds_desks_limit 4), .long (t_deeds_desks_tree 4)])), ((q_t_deeds_desks 4), .inl (cI, 8, .inl (a_t_deeds_desks 4))), ((d_t_deeds_desks 5), .inr (1, [.int (t_deeds_desks_genus 5), .int (t_deeds_desks_size 5), .ref (q_t_deeds_desks 5), .int (t_deeds_desks_limit 5), .long (t_deeds_desks_tree 5)])), ((q_t_deeds_desks 5), .inl (cI, 8, .inl (a_t_deeds_desks 5))), ((d_t_deeds_desks 6), .inr (1, [.int (t_deeds_desks_genus 6), .int (t_deeds_desks_size 6), .ref (q_t_deeds_desks 6), .int (t_deeds_desks_limit 6), .long (t_deeds_desks_tree 6)])), ((q_t_deeds_desks 6), .inl (cI, 8, .inl (a_t_deeds_desks 6))), ((d_t_deeds_desks 7), .inr (1, [.int (t_deeds_desks_genus 7), .int (t_deeds_desks_size 7), .ref (q_t_deeds_desks 7), .int (t_deeds_desks_limit 7), .long (t_deeds_desks_tree 7)])), ((q_t_deeds_desks 7), .inl (cI, 8, .inl (a_t_deeds_desks 7))), ((d_t_deeds_desks 8), .inr (1, [.int (t_deeds_desks_genus 8), .int (t_deeds_desks_size 8), .ref (q_t_deeds_desks 8), .int (t_deeds_desks_limit 8), .long (t_deeds_desks_tree 8)])), ((q_t_deeds_desks 8), .inl (cI, 8, .inl (a_t_deeds_desks 8))), (h_t_desk_powers, .inl (cI, 8, .inl a_t_desk_powers))] s.heap.size = A at hD ⊢
  have hA : ∀ q : Nat, s.heap.size ≤ q → A q := fun q h => by rw [← hAe]; exact Or.inr h
  have hS : va_S A s.heap s.heap [] := va_S.rf
  have hl := lv_entry ([.ref h_t]) (n := 1) (Nat.le_of_ble_eq_true rfl)
  rw [lg_entry_eq]
  generalize (lg_sl ([.ref h_t]) ++ List.replicate (1 - (lg_sl ([.ref h_t])).length) Slot.unset).toArray = ls at hl ⊢
  have hl : lv_has ls 1 [(0, .ref h_t)] := hl
  have hinX8 : ∀ w ∈ wsX80, w ∈ wsX8_again := hin_of in_X8
  have h := hF
  unfold F_X8_again at h
  refine lv_aload_n hx hb dX8_again_0 rfl (lv_at hl 0 rfl) ?_
  refine va_get (D := G) (ci := 7) (v := .ref h_t_deeds) (C := RX8) (T := TX8) (N := 9) hx hb hts hinX8 hown hK hP 0 rfl rfl 2 (by decide) (hta _ mw_362) (fun _ h9 => h9) rfl dX8_again_1 ?_
  obtain ⟨x1, hx1, h⟩ := bd_e h
  try dsimp only at h
  refine k_ViU (n := 0) (As := []) (rest := []) hx hb hml hown hts (c_X0_repeatable l G cI cJ cD cH s.heap.size h_t_deeds h_t_deeds_desks t_deeds_now t_deeds_last x1 hx1) gX8_again_X0_repeatable rfl rfl rfl (by decide +kernel) ⟨by first | exact Nat.le_of_ble_eq_true rfl | (simp only [headSpec]; omega), by first | exact Nat.le_of_ble_eq_true rfl | (simp only [headSpec]; omega)⟩ hK hP hD hS hA [1] (by decide) rfl (ci := 0) rfl rfl rfl rfl rfl hl.1 (Nat.le_of_ble_eq_true rfl) dX8_again_4 ⟨Nat.zero_le _, Nat.zero_le _⟩ (fun hp1 H locs hP hS => ?_)
  refine lv_if_ne (tgt := 13) hx hb dX8_again_7 (by decide) (fun c2 => ?_) (fun c2 => ?_)
  rotate_left
  · have h := it_p h c2
    refine lv_bipush (v := (-5 : Int32)) hx hb dX8_again_10 (by decide) ?_
    have h9 := Option.some.inj h
    have e9 : (-5 : Int32) = r0 := congrArg (fun z9 => z9.1) h9
    rw [← e9]
    have e9 : a_t_desk_powers = w0 := congrArg (fun z9 => z9.2.1) h9
    rw [← e9]
    have e9 : t_deeds_now = w1 := congrArg (fun z9 => z9.2.2.1) h9
    rw [← e9]
    have e9 : t_desk_genus = w2 := congrArg (fun z9 => z9.2.2.2.1) h9
    rw [← e9]
    have e9 : t_desk_size = w3 := congrArg (fun z9 => z9.2.2.2.2.1) h9
    rw [← e9]
    have e9 : t_desk_limit = w4 := congrArg (fun z9 => z9.2.2.2.2.2.1) h9
    rw [← e9]
    have e9 : t_desk_tree = w5 := congrArg (fun z9 => z9.2.2.2.2.2.2) h9
    rw [← e9]
    exact k_iret hx hb hr hlocks hP hS rfl dX8_again_12
  have h := it_n h c2
  refine lv_aload_n hx hb dX8_again_13 rfl (lv_at hl 0 rfl) ?_
  refine va_get (D := G) (ci := 7) (v := .ref h_t_deeds) (C := RX8) (T := TX8) (N := 9) hx hb hts hinX8 hown hK hP 0 rfl rfl 2 (by decide) (hta _ mw_362) (fun _ h9 => h9) rfl dX8_again_14 ?_
  refine lv_aload_n hx hb dX8_again_17 rfl (lv_at hl 0 rfl) ?_
  refine va_get (D := G) (ci := 7) (v := .ref h_t_desk) (C := RX8) (T := TX8) (N := 9) hx hb hts hinX8 hown hK hP 0 rfl rfl 0 (by decide) (hta _ mw_358) (fun _ h9 => h9) rfl dX8_again_18 ?_
  obtain ⟨x3, hx3, h⟩ := bd_e h
  try dsimp only at h
  refine k_VvM (n := 1) (As := [.ref h_t_desk]) (rest := []) hx hb hml hown hts (c_X0_stepOn l G cI cJ cD cH H.size h_t_deeds h_t_desk h_t_deeds_desks h_t_desk_powers d_t_deeds_desks q_t_deeds_desks a_t_deeds_desks t_deeds_desks_genus t_deeds_desks_size t_deeds_desks_limit t_deeds_desks_tree t_deeds_now t_deeds_last t_desk_genus t_desk_size t_desk_limit t_desk_tree a_t_desk_powers (x3.1) (x3.2.1) (x3.2.2.1) (x3.2.2.2.1) (x3.2.2.2.2.1) (x3.2.2.2.2.2) hx3) gX8_again_X0_stepOn rfl rfl rfl (by decide +kernel) ⟨by first | exact Nat.le_of_ble_eq_true rfl | (simp only [headSpec]; omega), by first | exact Nat.le_of_ble_eq_true rfl | (simp only [headSpec]; omega)⟩ hK hP hD hS hA [1, 2, 3, 4, 5, 6, 7, 8, 9, 10, 11, 12, 13, 14, 15, 16, 17, 18, 19, 20, 21, 22] (by decide) rfl rfl (ci := 0) rfl rfl rfl rfl rfl hl.1 (Nat.le_of_ble_eq_true rfl) dX8_again_21 ⟨Nat.zero_le _, Nat.zero_le _⟩ [(h_t, .inr (7, [.ref h_t_desk, .ref h_t_imageDesk, .ref h_t_deeds, .ref h_t_numbers, .ref h_t_tape, .ref h_t_reader, .ref h_t_speller, .ref h_t_holders, .int t_imageKept])), (h_t_deeds, .inr (0, [.ref h_t_deeds_desks, .int (x3.2.1), .int t_deeds_last])), (h_t_desk, .inr (1, [.int (x3.2.2.1), .int (x3.2.2.2.1), .ref h_t_desk_powers, .int (x3.2.2.2.2.1), .long (x3.2.2.2.2.2)])), (h_t_deeds_desks, .inl (cD, 9, .inr (.inr (.inr (.inr (fun i => some (d_t_deeds_desks i))))))), ((d_t_deeds_desks 0), .inr (1, [.int (t_deeds_desks_genus 0), .int (t_deeds_desks_size 0), .ref (q_t_deeds_desks 0), .int (t_deeds_desks_limit 0), .long (t_deeds_desks_tree 0)])), ((q_t_deeds_desks 0), .inl (cI, 8, .inl (a_t_deeds_desks 0))), ((d_t_deeds_desks 1), .inr (1, [.int (t_deeds_desks_genus 1), .int (t_deeds_desks_size 1), .ref (q_t_deeds_desks 1), .int (t_deeds_desks_limit 1), .long (t_deeds_desks_tree 1)])), ((q_t_deeds_desks 1), .inl (cI, 8, .inl (a_t_deeds_desks 1))), ((d_t_deeds_desks 2), .inr (1, [.int (t_deeds_desks_genus 2), .int (t_deeds_desks_size 2), .ref (q_t_deeds_desks 2), .int (t_deeds_desks_limit 2), .long (t_deeds_desks_tree 2)])), ((q_t_deeds_desks 2), .inl (cI, 8, .inl (a_t_deeds_desks 2))), ((d_t_deeds_desks 3), .inr (1, [.int (t_deeds_desks_genus 3), .int (t_deeds_desks_size 3), .ref (q_t_deeds_desks 3), .int (t_deeds_desks_limit 3), .long (t_deeds_desks_tree 3)])), ((q_t_deeds_desks 3), .inl (cI, 8, .inl (a_t_deeds_desks 3))), ((d_t_deeds_desks 4), .inr (1, [.int (t_deeds_desks_genus 4), .int (t_deeds_desks_size 4), .ref (q_t_deeds_desks 4), .int (t_deeds_desks_limit 4), .long (t_deeds_desks_tree 4)])), ((q_t_deeds_desks 4), .inl (cI, 8, .inl (a_t_deeds_desks 4))), ((d_t_deeds_desks 5), .inr (1, [.int (t_deeds_desks_genus 5), .int (t_deeds_desks_size 5), .ref (q_t_deeds_desks 5), .int (t_deeds_desks_limit 5), .long (t_deeds_desks_tree 5)])), ((q_t_deeds_desks 5), .inl (cI, 8, .inl (a_t_deeds_desks 5))), ((d_t_deeds_desks 6), .inr (1, [.int (t_deeds_desks_genus 6), .int (t_deeds_desks_size 6), .ref (q_t_deeds_desks 6), .int (t_deeds_desks_limit 6), .long (t_deeds_desks_tree 6)])), ((q_t_deeds_desks 6), .inl (cI, 8, .inl (a_t_deeds_desks 6))), ((d_t_deeds_desks 7), .inr (1, [.int (t_deeds_desks_genus 7), .int (t_deeds_desks_size 7), .ref (q_t_deeds_desks 7), .int (t_deeds_desks_limit 7), .long (t_deeds_desks_tree 7)])), ((q_t_deeds_desks 7), .inl (cI, 8, .inl (a_t_deeds_desks 7))), ((d_t_deeds_desks 8), .inr (1, [.int (t_deeds_desks_genus 8), .int (t_deeds_desks_size 8), .ref (q_t_deeds_desks 8), .int (t_deeds_desks_limit 8), .long (t_deeds_desks_tree 8)])), ((q_t_deeds_desks 8), .inl (cI, 8, .inl (a_t_deeds_desks 8))), (h_t_desk_powers, .inl (cI, 8, .inl (x3.1)))] [0, 1, 2, 3, 4, 5, 6, 7, 8, 9, 10, 11, 12, 13, 14, 15, 16, 17, 18, 19, 20, 21, 22] 22 (by decide +kernel) rfl rfl rfl (fun hp3 H locs hP hD hS => ?_)
  refine lv_aload_n hx hb dX8_again_24 rfl (lv_at hl 0 rfl) ?_
  refine va_get (D := G) (ci := 7) (v := .ref h_t_deeds) (C := RX8) (T := TX8) (N := 9) hx hb hts hinX8 hown hK hP 0 rfl rfl 2 (by decide) (hta _ mw_362) (fun _ h9 => h9) rfl dX8_again_25 ?_
  obtain ⟨x4, hx4, h⟩ := bd_e h
  try dsimp only at h
  refine k_ViU (n := 0) (As := []) (rest := []) hx hb hml hown hts (c_X0_repeatable l G cI cJ cD cH H.size h_t_deeds h_t_deeds_desks (x3.2.1) t_deeds_last x4 hx4) gX8_again_X0_repeatable rfl rfl rfl (by decide +kernel) ⟨by first | exact Nat.le_of_ble_eq_true rfl | (simp only [headSpec]; omega), by first | exact Nat.le_of_ble_eq_true rfl | (simp only [headSpec]; omega)⟩ hK hP hD hS hA [1] (by decide) rfl (ci := 0) rfl rfl rfl rfl rfl hl.1 (Nat.le_of_ble_eq_true rfl) dX8_again_28 ⟨Nat.zero_le _, Nat.zero_le _⟩ (fun hp4 H locs hP hS => ?_)
  have h9 := Option.some.inj h
  have e9 : x4 = r0 := congrArg (fun z9 => z9.1) h9
  rw [← e9]
  have e9 : (x3.1) = w0 := congrArg (fun z9 => z9.2.1) h9
  rw [← e9]
  have e9 : (x3.2.1) = w1 := congrArg (fun z9 => z9.2.2.1) h9
  rw [← e9]
  have e9 : (x3.2.2.1) = w2 := congrArg (fun z9 => z9.2.2.2.1) h9
  rw [← e9]
  have e9 : (x3.2.2.2.1) = w3 := congrArg (fun z9 => z9.2.2.2.2.1) h9
  rw [← e9]
  have e9 : (x3.2.2.2.2.1) = w4 := congrArg (fun z9 => z9.2.2.2.2.2.1) h9
  rw [← e9]
  have e9 : (x3.2.2.2.2.2) = w5 := congrArg (fun z9 => z9.2.2.2.2.2.2) h9
  rw [← e9]
  exact k_iret hx hb hr hlocks hP hS rfl dX8_again_31

/-! X8_feed -/
set_option maxHeartbeats 4000000 in
set_option maxRecDepth 100000 in
theorem tK_X8_feed_33_60 {l : Launch} {G : va_G} {cI cJ cD cH : ClassId} {h_t : Nat} {h_t_tape : Nat} {h_t_tape_bytes : Nat} {h_t_desk : Nat} {h_t_imageDesk : Nat} {h_t_deeds : Nat} {h_t_numbers : Nat} {h_t_reader : Nat} {h_t_speller : Nat} {h_t_holders : Nat} {t_imageKept : Int32} {p0 : Int32} {p1 : Int32} {r0 : Int32} {w0 : Nat → Int32} {w1 : Int32} {p : Program} {e : Env} {s : State} {m : MethodId} {below : List Frame} {meth : Method} {c : Code} {A : Nat → Prop} (hx : p.tables.exec = Jvm.exec) (hb : c.code = cX8_feed) (hr : meth.sig.returnType = (some .int)) (hml : c.maxLocals = 4) (hts : ∀ w ∈ wsX8_feed, w.before ([.ref h_t, .int p0, .int p1] : List Value).toArray s = true) (hown : s.vm.findClass RX8 = some m.cls) (hlocks : meth.locks = false) (hK : va_K G vwCl (k_T cI cJ cD cH) s) (hA : ∀ q : Nat, s.heap.size ≤ q → A q) : ∀  (vK33_60_0 : Nat → Int32) (vK33_60_1 : Int32) (H : Heap) (locs : List Loc) (ls : Array Slot), va_P G vwCl [(h_t, .inr (7, [.ref h_t_desk, .ref h_t_imageDesk, .ref h_t_deeds, .ref h_t_numbers, .ref h_t_tape, .ref h_t_reader, .ref h_t_speller, .ref h_t_holders, .int t_imageKept])), (h_t_tape, .inr (6, [.ref h_t_tape_bytes, .int vK33_60_1])), (h_t_tape_bytes, .inl (cI, 60, .inl vK33_60_0))] H → va_D A [(h_t, .inr (7, [.ref h_t_desk, .ref h_t_imageDesk, .ref h_t_deeds, .ref h_t_numbers, .ref h_t_tape, .ref h_t_reader, .ref h_t_speller, .ref h_t_holders, .int t_imageKept])), (h_t_tape, .inr (6, [.ref h_t_tape_bytes, .int vK33_60_1])), (h_t_tape_bytes, .inl (cI, 60, .inl vK33_60_0))] → va_S A s.heap H locs → lv_has ls 4 [(0, .ref h_t)] → K_X8_feed_33_60 vK33_60_0 vK33_60_1 = some (r0, w0, w1) → W p l e (headSpec wsX8_feed ({ frames := 1, cells := 0, slots := 0, locals := 21 })).room s m ([.ref h_t, .int p0, .int p1] : List Value).toArray below meth c H locs 0 0 (MQ below (va_Qi (fun r (_ : Unit) => r = r0 ∧ True) (fun _ t => va_P G vwCl [(h_t, .inr (7, [.ref h_t_desk, .ref h_t_imageDesk, .ref h_t_deeds, .ref h_t_numbers, .ref h_t_tape, .ref h_t_reader, .ref h_t_speller, .ref h_t_holders, .int t_imageKept])), (h_t_tape, .inr (6, [.ref h_t_tape_bytes, .int w1])), (h_t_tape_bytes, .inl (cI, 60, .inl w0))] t.heap) A) ([.ref h_t, .int p0, .int p1] : List Value).toArray s 0 0 A) (F0 m 60 ls []) := by
  have hta : ∀ w ∈ wA, w.before ([.ref h_t, .int p0, .int p1] : List Value).toArray s = true := hta_of hts
  have hinX7 : ∀ w ∈ wsX70, w ∈ wsX8_feed := hin_of in_X7
  have hinX8 : ∀ w ∈ wsX80, w ∈ wsX8_feed := hin_of in_X8
  intro vK33_60_0 vK33_60_1 H locs ls hP hD hS hl h
  unfold K_X8_feed_33_60 at h
  refine lv_aload_n hx hb dX8_feed_60 rfl (lv_at hl 0 rfl) ?_
  refine va_get (D := G) (ci := 7) (v := .ref h_t_tape) (C := RX8) (T := TX8) (N := 9) hx hb hts hinX8 hown hK hP 0 rfl rfl 4 (by decide) (hta _ mw_370) (fun _ h9 => h9) rfl dX8_feed_61 ?_
  refine va_get (D := G) (ci := 6) (v := .int vK33_60_1) (C := RX7) (T := TX7) (N := 2) hx hb hts hinX7 hown hK hP 1 rfl rfl 1 (by decide) (hta _ mw_535) (fun _ h9 => h9) rfl dX8_feed_64 ?_
  have h9 := Option.some.inj h
  have e9 : vK33_60_1 = r0 := congrArg (fun z9 => z9.1) h9
  rw [← e9]
  have e9 : vK33_60_0 = w0 := congrArg (fun z9 => z9.2.1) h9
  rw [← e9]
  have e9 : vK33_60_1 = w1 := congrArg (fun z9 => z9.2.2) h9
  rw [← e9]
  exact k_iret hx hb hr hlocks hP hS rfl dX8_feed_67
set_option maxHeartbeats 4000000 in
set_option maxRecDepth 100000 in
theorem c_X8_feed (l : Launch) (G : va_G) (cI cJ cD cH : ClassId) (sz : Nat) (h_t : Nat) (h_t_tape : Nat) (h_t_tape_bytes : Nat) (h_t_desk : Nat) (h_t_imageDesk : Nat) (h_t_deeds : Nat) (h_t_numbers : Nat) (h_t_reader : Nat) (h_t_speller : Nat) (h_t_holders : Nat) (t_imageKept : Int32) (t_tape_size : Int32) (a_t_tape_bytes : Nat → Int32) (p0 : Int32) (p1 : Int32) (r0 : Int32) (w0 : Nat → Int32) (w1 : Int32) (hF : F_X8_feed t_tape_size a_t_tape_bytes p0 p1 = some (r0, w0, w1)) : Met l yX8_feed wsX8_feed ({ frames := 1, cells := 0, slots := 0, locals := 21 }) (k_pre G (k_T cI cJ cD cH) [(h_t, .inr (7, [.ref h_t_desk, .ref h_t_imageDesk, .ref h_t_deeds, .ref h_t_numbers, .ref h_t_tape, .ref h_t_reader, .ref h_t_speller, .ref h_t_holders, .int t_imageKept])), (h_t_tape, .inr (6, [.ref h_t_tape_bytes, .int t_tape_size])), (h_t_tape_bytes, .inl (cI, 60, .inl a_t_tape_bytes))] sz [.ref h_t, .int p0, .int p1]) (va_Qi (fun r (_ : Unit) => r = r0 ∧ True) (fun _ t => va_P G vwCl [(h_t, .inr (7, [.ref h_t_desk, .ref h_t_imageDesk, .ref h_t_deeds, .ref h_t_numbers, .ref h_t_tape, .ref h_t_reader, .ref h_t_speller, .ref h_t_holders, .int t_imageKept])), (h_t_tape, .inr (6, [.ref h_t_tape_bytes, .int w1])), (h_t_tape_bytes, .inl (cI, 60, .inl w0))] t.heap) (va_A [(h_t, .inr (7, [.ref h_t_desk, .ref h_t_imageDesk, .ref h_t_deeds, .ref h_t_numbers, .ref h_t_tape, .ref h_t_reader, .ref h_t_speller, .ref h_t_holders, .int t_imageKept])), (h_t_tape, .inr (6, [.ref h_t_tape_bytes, .int t_tape_size])), (h_t_tape_bytes, .inl (cI, 60, .inl a_t_tape_bytes))] sz)) 0 0 (va_A [(h_t, .inr (7, [.ref h_t_desk, .ref h_t_imageDesk, .ref h_t_deeds, .ref h_t_numbers, .ref h_t_tape, .ref h_t_reader, .ref h_t_speller, .ref h_t_holders, .int t_imageKept])), (h_t_tape, .inr (6, [.ref h_t_tape_bytes, .int t_tape_size])), (h_t_tape_bytes, .inl (cI, 60, .inl a_t_tape_bytes))] sz) := by
  refine Met.ofW (cc := cX8_feed) (maxL := 4) (ret := (some .int)) (by decide) rfl ?_
  intro p e s m args below meth c s₁ B hml hv
  obtain ⟨rfl, hsz, hP, hK, hD0⟩ := hv
  have hx := B.exec
  have hb := B.bytes
  have hr := B.returns
  have hts := atoms_spec (ws := wsX8_feed) B.pre
  have hta : ∀ w ∈ wA, w.before ([.ref h_t, .int p0, .int p1] : List Value).toArray s = true := hta_of hts
  have hown : s.vm.findClass RX8 = some m.cls := findClass_of_methodNamed B.named
  have hlocks := B.notSynchronized
  subst hsz
  have hD := hD0.self (sz := s.heap.size)
  generalize hAe : va_A [(h_t, .inr (7, [.ref h_t_desk, .ref h_t_imageDesk, .ref h_t_deeds, .ref h_t_numbers, .ref h_t_tape, .ref h_t_reader, .ref h_t_speller, .ref h_t_holders, .int t_imageKept])), (h_t_tape, .inr (6, [.ref h_t_tape_bytes, .int t_tape_size])), (h_t_tape_bytes, .inl (cI, 60, .inl a_t_tape_bytes))] s.heap.size = A at hD ⊢
  have hA : ∀ q : Nat, s.heap.size ≤ q → A q := fun q h => by rw [← hAe]; exact Or.inr h
  have hS : va_S A s.heap s.heap [] := va_S.rf
  have hl := lv_entry ([.ref h_t, .int p0, .int p1]) (n := 4) (Nat.le_of_ble_eq_true rfl)
  rw [lg_entry_eq]
  generalize (lg_sl ([.ref h_t, .int p0, .int p1]) ++ List.replicate (4 - (lg_sl ([.ref h_t, .int p0, .int p1])).length) Slot.unset).toArray = ls at hl ⊢
  have hl : lv_has ls 4 [(0, .ref h_t), (1, .int p0), (2, .int p1)] := hl
  have hinX7 : ∀ w ∈ wsX70, w ∈ wsX8_feed := hin_of in_X7
  have hinX8 : ∀ w ∈ wsX80, w ∈ wsX8_feed := hin_of in_X8
  have h := hF
  unfold F_X8_feed at h
  refine lv_iload_n hx hb dX8_feed_0 rfl (lv_at hl 2 rfl) ?_
  refine lv_iconst (v := (1 : Int32)) hx hb dX8_feed_1 (by decide) ?_
  refine lv_icmp_lt (tgt := 10) hx hb dX8_feed_2 (by decide) (fun c1 => ?_) (fun c1 => ?_)
  · have h := it_p h c1
    refine lv_iconst (v := (-1 : Int32)) hx hb dX8_feed_10 (by decide) ?_
    have h9 := Option.some.inj h
    have e9 : (-1 : Int32) = r0 := congrArg (fun z9 => z9.1) h9
    rw [← e9]
    have e9 : a_t_tape_bytes = w0 := congrArg (fun z9 => z9.2.1) h9
    rw [← e9]
    have e9 : t_tape_size = w1 := congrArg (fun z9 => z9.2.2) h9
    rw [← e9]
    exact k_iret hx hb hr hlocks hP hS rfl dX8_feed_11
  have h := it_n h c1
  refine lv_iload_n hx hb dX8_feed_5 rfl (lv_at hl 2 rfl) ?_
  refine lv_iconst (v := (4 : Int32)) hx hb dX8_feed_6 (by decide) ?_
  refine lv_icmp_le (tgt := 12) hx hb dX8_feed_7 (by decide) (fun c2 => ?_) (fun c2 => ?_)
  rotate_left
  · have h := it_n h c2
    refine lv_iconst (v := (-1 : Int32)) hx hb dX8_feed_10 (by decide) ?_
    have h9 := Option.some.inj h
    have e9 : (-1 : Int32) = r0 := congrArg (fun z9 => z9.1) h9
    rw [← e9]
    have e9 : a_t_tape_bytes = w0 := congrArg (fun z9 => z9.2.1) h9
    rw [← e9]
    have e9 : t_tape_size = w1 := congrArg (fun z9 => z9.2.2) h9
    rw [← e9]
    exact k_iret hx hb hr hlocks hP hS rfl dX8_feed_11
  have h := it_p h c2
  refine lv_aload_n hx hb dX8_feed_12 rfl (lv_at hl 0 rfl) ?_
  refine va_get (D := G) (ci := 7) (v := .ref h_t_tape) (C := RX8) (T := TX8) (N := 9) hx hb hts hinX8 hown hK hP 0 rfl rfl 4 (by decide) (hta _ mw_370) (fun _ h9 => h9) rfl dX8_feed_13 ?_
  refine va_get (D := G) (ci := 6) (v := .int t_tape_size) (C := RX7) (T := TX7) (N := 2) hx hb hts hinX7 hown hK hP 1 rfl rfl 1 (by decide) (hta _ mw_535) (fun _ h9 => h9) rfl dX8_feed_16 ?_
  refine lv_iload_n hx hb dX8_feed_19 rfl (lv_at hl 2 rfl) ?_
  refine lv_iadd hx hb dX8_feed_20 ?_
  refine lv_bipush (v := (60 : Int32)) hx hb dX8_feed_21 (by decide) ?_
  refine lv_icmp_le (tgt := 29) hx hb dX8_feed_23 (by decide) (fun c3 => ?_) (fun c3 => ?_)
  rotate_left
  · have h := it_n h c3
    refine lv_bipush (v := (-3 : Int32)) hx hb dX8_feed_26 (by decide) ?_
    have h9 := Option.some.inj h
    have e9 : (-3 : Int32) = r0 := congrArg (fun z9 => z9.1) h9
    rw [← e9]
    have e9 : a_t_tape_bytes = w0 := congrArg (fun z9 => z9.2.1) h9
    rw [← e9]
    have e9 : t_tape_size = w1 := congrArg (fun z9 => z9.2.2) h9
    rw [← e9]
    exact k_iret hx hb hr hlocks hP hS rfl dX8_feed_28
  have h := it_p h c3
  refine lv_iload_n hx hb dX8_feed_29 rfl (lv_at hl 2 rfl) ?_
  refine lv_iconst (v := (1 : Int32)) hx hb dX8_feed_30 (by decide) ?_
  refine lv_isub hx hb dX8_feed_31 ?_
  refine lv_istore_n (lv' := [(3, .int (p1 - (1 : Int32))), (0, .ref h_t), (1, .int p0), (2, .int p1)]) hx hb dX8_feed_32 rfl hl (by decide) rfl (fun ls hl => ?_)
  have hL33 : ∀ (n33 : Nat) (vL33_0 : Nat → Int32) (vL33_1 : Int32) (vL33_2 : Int32) (H : Heap) (locs : List Loc) (ls : Array Slot), va_P G vwCl [(h_t, .inr (7, [.ref h_t_desk, .ref h_t_imageDesk, .ref h_t_deeds, .ref h_t_numbers, .ref h_t_tape, .ref h_t_reader, .ref h_t_speller, .ref h_t_holders, .int t_imageKept])), (h_t_tape, .inr (6, [.ref h_t_tape_bytes, .int vL33_1])), (h_t_tape_bytes, .inl (cI, 60, .inl vL33_0))] H → va_D A [(h_t, .inr (7, [.ref h_t_desk, .ref h_t_imageDesk, .ref h_t_deeds, .ref h_t_numbers, .ref h_t_tape, .ref h_t_reader, .ref h_t_speller, .ref h_t_holders, .int t_imageKept])), (h_t_tape, .inr (6, [.ref h_t_tape_bytes, .int vL33_1])), (h_t_tape_bytes, .inl (cI, 60, .inl vL33_0))] → va_S A s.heap H locs → lv_has ls 4 [(0, .ref h_t), (1, .int p0), (3, .int vL33_2)] → wq3 (B_X8_feed_33 p0 K_X8_feed_33_60) n33 vL33_0 vL33_1 vL33_2 = some (r0, w0, w1) → W p l e (headSpec wsX8_feed ({ frames := 1, cells := 0, slots := 0, locals := 21 })).room s m ([.ref h_t, .int p0, .int p1] : List Value).toArray below meth c H locs 0 0 (MQ below (va_Qi (fun r (_ : Unit) => r = r0 ∧ True) (fun _ t => va_P G vwCl [(h_t, .inr (7, [.ref h_t_desk, .ref h_t_imageDesk, .ref h_t_deeds, .ref h_t_numbers, .ref h_t_tape, .ref h_t_reader, .ref h_t_speller, .ref h_t_holders, .int t_imageKept])), (h_t_tape, .inr (6, [.ref h_t_tape_bytes, .int w1])), (h_t_tape_bytes, .inl (cI, 60, .inl w0))] t.heap) A) ([.ref h_t, .int p0, .int p1] : List Value).toArray s 0 0 A) (F0 m 33 ls []) := by
    intro n33
    induction n33 with
    | zero => intro vL33_0 vL33_1 vL33_2 H locs ls hP hD hS hl h; exact wq3_0 h
    | succ n33 ih33 =>
      intro vL33_0 vL33_1 vL33_2 H locs ls hP hD hS hl h
      have h := wq3_s h
      unfold B_X8_feed_33 at h
      refine lv_iload_n hx hb dX8_feed_33 rfl (lv_at hl 2 rfl) ?_
      refine lv_if_lt (tgt := 60) hx hb dX8_feed_34 (by decide) (fun c4 => ?_) (fun c4 => ?_)
      · have h := it_p h c4
        exact tK_X8_feed_33_60 hx hb hr hml hts hown hlocks hK hA vL33_0 vL33_1 _ _ _ hP hD hS (lv_sub hl [0] rfl) h
      have h := it_n h c4
      refine lv_aload_n hx hb dX8_feed_37 rfl (lv_at hl 0 rfl) ?_
      refine va_get (D := G) (ci := 7) (v := .ref h_t_tape) (C := RX8) (T := TX8) (N := 9) hx hb hts hinX8 hown hK hP 0 rfl rfl 4 (by decide) (hta _ mw_370) (fun _ h9 => h9) rfl dX8_feed_38 ?_
      refine lv_iload_n hx hb dX8_feed_41 rfl (lv_at hl 1 rfl) ?_
      refine lv_bipush (v := (8 : Int32)) hx hb dX8_feed_42 (by decide) ?_
      refine lv_iload_n hx hb dX8_feed_44 rfl (lv_at hl 2 rfl) ?_
      refine lv_imul hx hb dX8_feed_45 ?_
      refine lv_iushr (v := (iush p0 ((8 : Int32) * vL33_2))) hx hb dX8_feed_46 rfl ?_
      refine lv_sipush (v := (255 : Int32)) hx hb dX8_feed_47 (by decide) ?_
      refine lv_iand hx hb dX8_feed_50 ?_
      obtain ⟨x5, hx5, h⟩ := bd_e h
      try dsimp only at h
      refine k_VvM (n := 1) (As := [.int ((iush p0 ((8 : Int32) * vL33_2)) &&& (255 : Int32))]) (rest := []) hx hb hml hown hts (c_X7_add l G cI cJ cD cH H.size h_t_tape h_t_tape_bytes vL33_1 vL33_0 ((iush p0 ((8 : Int32) * vL33_2)) &&& (255 : Int32)) (x5.1) (x5.2) hx5) gX8_feed_X7_add rfl rfl rfl (by decide +kernel) ⟨by first | exact Nat.le_of_ble_eq_true rfl | (simp only [headSpec]; omega), by first | exact Nat.le_of_ble_eq_true rfl | (simp only [headSpec]; omega)⟩ hK hP hD hS hA [1, 2] (by decide) rfl rfl (ci := 6) rfl rfl rfl rfl rfl hl.1 (Nat.le_of_ble_eq_true rfl) dX8_feed_51 ⟨Nat.zero_le _, Nat.zero_le _⟩ [(h_t, .inr (7, [.ref h_t_desk, .ref h_t_imageDesk, .ref h_t_deeds, .ref h_t_numbers, .ref h_t_tape, .ref h_t_reader, .ref h_t_speller, .ref h_t_holders, .int t_imageKept])), (h_t_tape, .inr (6, [.ref h_t_tape_bytes, .int (x5.2)])), (h_t_tape_bytes, .inl (cI, 60, .inl (x5.1)))] [0, 1, 2] 2 (by decide +kernel) rfl rfl rfl (fun hp5 H locs hP hD hS => ?_)
      refine lv_iinc (v := (vL33_2 + (-1 : Int32))) (lv' := [(3, .int (vL33_2 + (-1 : Int32))), (0, .ref h_t), (1, .int p0)]) hx hb dX8_feed_54 hl (k := 2) rfl (by first | rfl | decide) (by decide) rfl (fun ls hl => ?_)
      refine lv_goto (tgt := 33) hx hb dX8_feed_57 (by decide) ?_
      exact ih33 (x5.1) (x5.2) (vL33_2 + (-1 : Int32)) _ _ _ hP hD hS (lv_sub hl [1, 2, 0] rfl) h
  exact hL33 FU a_t_tape_bytes t_tape_size (p1 - (1 : Int32)) _ _ _ hP hD hS (lv_sub hl [1, 2, 0] rfl) h

/-! X8_wipe -/
set_option maxHeartbeats 4000000 in
set_option maxRecDepth 100000 in
theorem c_X8_wipe (l : Launch) (G : va_G) (cI cJ cD cH : ClassId) (sz : Nat) (h_t : Nat) (h_t_tape : Nat) (h_t_desk : Nat) (h_t_imageDesk : Nat) (h_t_deeds : Nat) (h_t_numbers : Nat) (h_t_reader : Nat) (h_t_speller : Nat) (h_t_holders : Nat) (h_t_tape_bytes : Nat) (t_imageKept : Int32) (t_tape_size : Int32) (r0 : Int32) (w0 : Int32) (hF : F_X8_wipe t_tape_size = some (r0, w0)) : Met l yX8_wipe wsX8_wipe ({ frames := 0, cells := 0, slots := 0, locals := 0 }) (k_pre G (k_T cI cJ cD cH) [(h_t, .inr (7, [.ref h_t_desk, .ref h_t_imageDesk, .ref h_t_deeds, .ref h_t_numbers, .ref h_t_tape, .ref h_t_reader, .ref h_t_speller, .ref h_t_holders, .int t_imageKept])), (h_t_tape, .inr (6, [.ref h_t_tape_bytes, .int t_tape_size]))] sz [.ref h_t]) (va_Qi (fun r (_ : Unit) => r = r0 ∧ True) (fun _ t => va_P G vwCl [(h_t, .inr (7, [.ref h_t_desk, .ref h_t_imageDesk, .ref h_t_deeds, .ref h_t_numbers, .ref h_t_tape, .ref h_t_reader, .ref h_t_speller, .ref h_t_holders, .int t_imageKept])), (h_t_tape, .inr (6, [.ref h_t_tape_bytes, .int w0]))] t.heap) (va_A [(h_t, .inr (7, [.ref h_t_desk, .ref h_t_imageDesk, .ref h_t_deeds, .ref h_t_numbers, .ref h_t_tape, .ref h_t_reader, .ref h_t_speller, .ref h_t_holders, .int t_imageKept])), (h_t_tape, .inr (6, [.ref h_t_tape_bytes, .int t_tape_size]))] sz)) 0 0 (va_A [(h_t, .inr (7, [.ref h_t_desk, .ref h_t_imageDesk, .ref h_t_deeds, .ref h_t_numbers, .ref h_t_tape, .ref h_t_reader, .ref h_t_speller, .ref h_t_holders, .int t_imageKept])), (h_t_tape, .inr (6, [.ref h_t_tape_bytes, .int t_tape_size]))] sz) := by
  refine Met.ofW (cc := cX8_wipe) (maxL := 2) (ret := (some .int)) (by decide) rfl ?_
  intro p e s m args below meth c s₁ B hml hv
  obtain ⟨rfl, hsz, hP, hK, hD0⟩ := hv
  have hx := B.exec
  have hb := B.bytes
  have hr := B.returns
  have hts := atoms_spec (ws := wsX8_wipe) B.pre
  have hta : ∀ w ∈ wA, w.before ([.ref h_t] : List Value).toArray s = true := hta_of hts
  have hown : s.vm.findClass RX8 = some m.cls := findClass_of_methodNamed B.named
  have hlocks := B.notSynchronized
  subst hsz
  have hD := hD0.self (sz := s.heap.size)
  generalize hAe : va_A [(h_t, .inr (7, [.ref h_t_desk, .ref h_t_imageDesk, .ref h_t_deeds, .ref h_t_numbers, .ref h_t_tape, .ref h_t_reader, .ref h_t_speller, .ref h_t_holders, .int t_imageKept])), (h_t_tape, .inr (6, [.ref h_t_tape_bytes, .int t_tape_size]))] s.heap.size = A at hD ⊢
  have hA : ∀ q : Nat, s.heap.size ≤ q → A q := fun q h => by rw [← hAe]; exact Or.inr h
  have hS : va_S A s.heap s.heap [] := va_S.rf
  have hl := lv_entry ([.ref h_t]) (n := 2) (Nat.le_of_ble_eq_true rfl)
  rw [lg_entry_eq]
  generalize (lg_sl ([.ref h_t]) ++ List.replicate (2 - (lg_sl ([.ref h_t])).length) Slot.unset).toArray = ls at hl ⊢
  have hl : lv_has ls 2 [(0, .ref h_t)] := hl
  have hinX7 : ∀ w ∈ wsX70, w ∈ wsX8_wipe := hin_of in_X7
  have hinX8 : ∀ w ∈ wsX80, w ∈ wsX8_wipe := hin_of in_X8
  have h := hF
  unfold F_X8_wipe at h
  refine lv_aload_n hx hb dX8_wipe_0 rfl (lv_at hl 0 rfl) ?_
  refine va_get (D := G) (ci := 7) (v := .ref h_t_tape) (C := RX8) (T := TX8) (N := 9) hx hb hts hinX8 hown hK hP 0 rfl rfl 4 (by decide) (hta _ mw_370) (fun _ h9 => h9) rfl dX8_wipe_1 ?_
  refine va_get (D := G) (ci := 6) (v := .int t_tape_size) (C := RX7) (T := TX7) (N := 2) hx hb hts hinX7 hown hK hP 1 rfl rfl 1 (by decide) (hta _ mw_535) (fun _ h9 => h9) rfl dX8_wipe_4 ?_
  refine lv_istore_n (lv' := [(1, .int t_tape_size), (0, .ref h_t)]) hx hb dX8_wipe_7 rfl hl (by decide) rfl (fun ls hl => ?_)
  refine lv_aload_n hx hb dX8_wipe_8 rfl (lv_at hl 1 rfl) ?_
  refine va_get (D := G) (ci := 7) (v := .ref h_t_tape) (C := RX8) (T := TX8) (N := 9) hx hb hts hinX8 hown hK hP 0 rfl rfl 4 (by decide) (hta _ mw_370) (fun _ h9 => h9) rfl dX8_wipe_9 ?_
  refine lv_iconst (v := (0 : Int32)) hx hb dX8_wipe_12 (by decide) ?_
  refine va_put (D := G) (ci := 6) (v := .int (0 : Int32)) (ty := .int) (C := RX7) (T := TX7) (N := 2) hx hb hts hinX7 tyX7 tyX7_ok nmX7 hown hK hP hD hS 1 rfl rfl 1 (by decide) (hta _ mw_535) (fun _ h9 => h9) rfl (by decide +kernel) rfl rfl (Nat.le_of_ble_eq_true rfl) dX8_wipe_13 (fun H locs hP hD hS => ?_)
  have hP : va_P G vwCl [(h_t, .inr (7, [.ref h_t_desk, .ref h_t_imageDesk, .ref h_t_deeds, .ref h_t_numbers, .ref h_t_tape, .ref h_t_reader, .ref h_t_speller, .ref h_t_holders, .int t_imageKept])), (h_t_tape, .inr (6, [.ref h_t_tape_bytes, .int (0 : Int32)]))] H := hP
  have hD : va_D A [(h_t, .inr (7, [.ref h_t_desk, .ref h_t_imageDesk, .ref h_t_deeds, .ref h_t_numbers, .ref h_t_tape, .ref h_t_reader, .ref h_t_speller, .ref h_t_holders, .int t_imageKept])), (h_t_tape, .inr (6, [.ref h_t_tape_bytes, .int (0 : Int32)]))] := hD
  refine lv_iload_n hx hb dX8_wipe_16 rfl (lv_at hl 0 rfl) ?_
  have h9 := Option.some.inj h
  have e9 : t_tape_size = r0 := congrArg (fun z9 => z9.1) h9
  rw [← e9]
  have e9 : (0 : Int32) = w0 := congrArg (fun z9 => z9.2) h9
  rw [← e9]
  exact k_iret hx hb hr hlocks hP hS rfl dX8_wipe_17

/-! X8_read -/
set_option maxHeartbeats 40000000 in
set_option maxRecDepth 100000 in
theorem c_X8_read (l : Launch) (G : va_G) (cI cJ cD cH : ClassId) (sz : Nat) (h_t : Nat) (h_t_reader : Nat) (h_t_desk : Nat) (h_t_reader_told : Nat) (h_t_reader_told_powers : Nat) (h_t_desk_powers : Nat) (h_t_tape : Nat) (h_t_tape_bytes : Nat) (h_t_reader_causes : Nat) (h_t_deeds : Nat) (h_t_deeds_desks : Nat) (h_t_imageDesk : Nat) (h_t_numbers : Nat) (h_t_speller : Nat) (h_t_holders : Nat) (d_t_deeds_desks : Nat → Nat) (q_t_deeds_desks : Nat → Nat) (a_t_deeds_desks : Nat → Nat → Int32) (t_deeds_desks_genus : Nat → Int32) (t_deeds_desks_size : Nat → Int32) (t_deeds_desks_limit : Nat → Int32) (t_deeds_desks_tree : Nat → Int64) (t_imageKept : Int32) (t_reader_refused : Int32) (t_reader_place : Int32) (t_reader_cannotBe : Int32) (t_desk_genus : Int32) (t_desk_size : Int32) (t_desk_limit : Int32) (t_desk_tree : Int64) (t_reader_told_genus : Int32) (t_reader_told_size : Int32) (t_reader_told_limit : Int32) (t_reader_told_tree : Int64) (a_t_reader_told_powers : Nat → Int32) (a_t_desk_powers : Nat → Int32) (t_tape_size : Int32) (a_t_tape_bytes : Nat → Int32) (a_t_reader_causes : Nat → Int32) (t_deeds_now : Int32) (t_deeds_last : Int32) (r0 : Int32) (w0 : Nat → Int32) (w1 : Nat → Int32) (w2 : Nat → Int32) (w3 : Int32) (w4 : Int32) (w5 : Int32) (w6 : Int32) (w7 : Int32) (w8 : Int32) (w9 : Int64) (w10 : Int32) (w11 : Int32) (w12 : Int32) (w13 : Int64) (w14 : Int32) (w15 : Int32) (w16 : Int32) (w17 : Nat → Nat → Int32) (w18 : Nat → Nat) (w19 : Nat → Int32) (w20 : Nat → Int32) (w21 : Nat → Nat) (w22 : Nat → Int32) (w23 : Nat → Int64) (hF : F_X8_read d_t_deeds_desks q_t_deeds_desks a_t_deeds_desks t_deeds_desks_genus t_deeds_desks_size t_deeds_desks_limit t_deeds_desks_tree t_reader_refused t_desk_genus t_desk_size t_desk_limit t_desk_tree a_t_reader_told_powers a_t_desk_powers t_tape_size a_t_tape_bytes a_t_reader_causes t_deeds_now t_deeds_last = some (r0, w0, w1, w2, w3, w4, w5, w6, w7, w8, w9, w10, w11, w12, w13, w14, w15, w16, w17, w18, w19, w20, w21, w22, w23)) : Met l yX8_read wsX8_read ({ frames := 7, cells := 0, slots := 0, locals := 157 }) (k_pre G (k_T cI cJ cD cH) [(h_t, .inr (7, [.ref h_t_desk, .ref h_t_imageDesk, .ref h_t_deeds, .ref h_t_numbers, .ref h_t_tape, .ref h_t_reader, .ref h_t_speller, .ref h_t_holders, .int t_imageKept])), (h_t_reader, .inr (4, [.ref h_t_tape, .ref h_t_reader_told, .ref h_t_reader_causes, .int t_reader_refused, .int t_reader_place, .int t_reader_cannotBe])), (h_t_desk, .inr (1, [.int t_desk_genus, .int t_desk_size, .ref h_t_desk_powers, .int t_desk_limit, .long t_desk_tree])), (h_t_reader_told, .inr (1, [.int t_reader_told_genus, .int t_reader_told_size, .ref h_t_reader_told_powers, .int t_reader_told_limit, .long t_reader_told_tree])), (h_t_reader_told_powers, .inl (cI, 8, .inl a_t_reader_told_powers)), (h_t_desk_powers, .inl (cI, 8, .inl a_t_desk_powers)), (h_t_tape, .inr (6, [.ref h_t_tape_bytes, .int t_tape_size])), (h_t_tape_bytes, .inl (cI, 60, .inl a_t_tape_bytes)), (h_t_reader_causes, .inl (cI, 6, .inl a_t_reader_causes)), (h_t_deeds, .inr (0, [.ref h_t_deeds_desks, .int t_deeds_now, .int t_deeds_last])), (h_t_deeds_desks, .inl (cD, 9, .inr (.inr (.inr (.inr (fun i => some (d_t_deeds_desks i))))))), ((d_t_deeds_desks 0), .inr (1, [.int (t_deeds_desks_genus 0), .int (t_deeds_desks_size 0), .ref (q_t_deeds_desks 0), .int (t_deeds_desks_limit 0), .long (t_deeds_desks_tree 0)])), ((q_t_deeds_desks 0), .inl (cI, 8, .inl (a_t_deeds_desks 0))), ((d_t_deeds_desks 1), .inr (1, [.int (t_deeds_desks_genus 1), .int (t_deeds_desks_size 1), .ref (q_t_deeds_desks 1), .int (t_deeds_desks_limit 1), .long (t_deeds_desks_tree 1)])), ((q_t_deeds_desks 1), .inl (cI, 8, .inl (a_t_deeds_desks 1))), ((d_t_deeds_desks 2), .inr (1, [.int (t_deeds_desks_genus 2), .int (t_deeds_desks_size 2), .ref (q_t_deeds_desks 2), .int (t_deeds_desks_limit 2), .long (t_deeds_desks_tree 2)])), ((q_t_deeds_desks 2), .inl (cI, 8, .inl (a_t_deeds_desks 2))), ((d_t_deeds_desks 3), .inr (1, [.int (t_deeds_desks_genus 3), .int (t_deeds_desks_size 3), .ref (q_t_deeds_desks 3), .int (t_deeds_desks_limit 3), .long (t_deeds_desks_tree 3)])), ((q_t_deeds_desks 3), .inl (cI, 8, .inl (a_t_deeds_desks 3))), ((d_t_deeds_desks 4), .inr (1, [.int (t_deeds_desks_genus 4), .int (t_deeds_desks_size 4), .ref (q_t_deeds_desks 4), .int (t_deeds_desks_limit 4), .long (t_deeds_desks_tree 4)])), ((q_t_deeds_desks 4), .inl (cI, 8, .inl (a_t_deeds_desks 4))), ((d_t_deeds_desks 5), .inr (1, [.int (t_deeds_desks_genus 5), .int (t_deeds_desks_size 5), .ref (q_t_deeds_desks 5), .int (t_deeds_desks_limit 5), .long (t_deeds_desks_tree 5)])), ((q_t_deeds_desks 5), .inl (cI, 8, .inl (a_t_deeds_desks 5))), ((d_t_deeds_desks 6), .inr (1, [.int (t_deeds_desks_genus 6), .int (t_deeds_desks_size 6), .ref (q_t_deeds_desks 6), .int (t_deeds_desks_limit 6), .long (t_deeds_desks_tree 6)])), ((q_t_deeds_desks 6), .inl (cI, 8, .inl (a_t_deeds_desks 6))), ((d_t_deeds_desks 7), .inr (1, [.int (t_deeds_desks_genus 7), .int (t_deeds_desks_size 7), .ref (q_t_deeds_desks 7), .int (t_deeds_desks_limit 7), .long (t_deeds_desks_tree 7)])), ((q_t_deeds_desks 7), .inl (cI, 8, .inl (a_t_deeds_desks 7))), ((d_t_deeds_desks 8), .inr (1, [.int (t_deeds_desks_genus 8), .int (t_deeds_desks_size 8), .ref (q_t_deeds_desks 8), .int (t_deeds_desks_limit 8), .long (t_deeds_desks_tree 8)])), ((q_t_deeds_desks 8), .inl (cI, 8, .inl (a_t_deeds_desks 8)))] sz [.ref h_t]) (va_Qi (fun r (_ : Unit) => r = r0 ∧ True) (fun _ t => va_P G vwCl [(h_t, .inr (7, [.ref h_t_desk, .ref h_t_imageDesk, .ref h_t_deeds, .ref h_t_numbers, .ref h_t_tape, .ref h_t_reader, .ref h_t_speller, .ref h_t_holders, .int t_imageKept])), (h_t_reader, .inr (4, [.ref h_t_tape, .ref h_t_reader_told, .ref h_t_reader_causes, .int w3, .int w4, .int w5])), (h_t_desk, .inr (1, [.int w6, .int w7, .ref h_t_desk_powers, .int w8, .long w9])), (h_t_reader_told, .inr (1, [.int w10, .int w11, .ref h_t_reader_told_powers, .int w12, .long w13])), (h_t_reader_told_powers, .inl (cI, 8, .inl w0)), (h_t_desk_powers, .inl (cI, 8, .inl w1)), (h_t_tape, .inr (6, [.ref h_t_tape_bytes, .int w14])), (h_t_tape_bytes, .inl (cI, 60, .inl a_t_tape_bytes)), (h_t_reader_causes, .inl (cI, 6, .inl w2)), (h_t_deeds, .inr (0, [.ref h_t_deeds_desks, .int w15, .int w16])), (h_t_deeds_desks, .inl (cD, 9, .inr (.inr (.inr (.inr (fun i => some (w18 i))))))), ((w18 0), .inr (1, [.int (w19 0), .int (w22 0), .ref (w21 0), .int (w20 0), .long (w23 0)])), ((w21 0), .inl (cI, 8, .inl (w17 0))), ((w18 1), .inr (1, [.int (w19 1), .int (w22 1), .ref (w21 1), .int (w20 1), .long (w23 1)])), ((w21 1), .inl (cI, 8, .inl (w17 1))), ((w18 2), .inr (1, [.int (w19 2), .int (w22 2), .ref (w21 2), .int (w20 2), .long (w23 2)])), ((w21 2), .inl (cI, 8, .inl (w17 2))), ((w18 3), .inr (1, [.int (w19 3), .int (w22 3), .ref (w21 3), .int (w20 3), .long (w23 3)])), ((w21 3), .inl (cI, 8, .inl (w17 3))), ((w18 4), .inr (1, [.int (w19 4), .int (w22 4), .ref (w21 4), .int (w20 4), .long (w23 4)])), ((w21 4), .inl (cI, 8, .inl (w17 4))), ((w18 5), .inr (1, [.int (w19 5), .int (w22 5), .ref (w21 5), .int (w20 5), .long (w23 5)])), ((w21 5), .inl (cI, 8, .inl (w17 5))), ((w18 6), .inr (1, [.int (w19 6), .int (w22 6), .ref (w21 6), .int (w20 6), .long (w23 6)])), ((w21 6), .inl (cI, 8, .inl (w17 6))), ((w18 7), .inr (1, [.int (w19 7), .int (w22 7), .ref (w21 7), .int (w20 7), .long (w23 7)])), ((w21 7), .inl (cI, 8, .inl (w17 7))), ((w18 8), .inr (1, [.int (w19 8), .int (w22 8), .ref (w21 8), .int (w20 8), .long (w23 8)])), ((w21 8), .inl (cI, 8, .inl (w17 8)))] t.heap ∧ va_D (va_A [(h_t, .inr (7, [.ref h_t_desk, .ref h_t_imageDesk, .ref h_t_deeds, .ref h_t_numbers, .ref h_t_tape, .ref h_t_reader, .ref h_t_speller, .ref h_t_holders, .int t_imageKept])), (h_t_reader, .inr (4, [.ref h_t_tape, .ref h_t_reader_told, .ref h_t_reader_causes, .int t_reader_refused, .int t_reader_place, .int t_reader_cannotBe])), (h_t_desk, .inr (1, [.int t_desk_genus, .int t_desk_size, .ref h_t_desk_powers, .int t_desk_limit, .long t_desk_tree])), (h_t_reader_told, .inr (1, [.int t_reader_told_genus, .int t_reader_told_size, .ref h_t_reader_told_powers, .int t_reader_told_limit, .long t_reader_told_tree])), (h_t_reader_told_powers, .inl (cI, 8, .inl a_t_reader_told_powers)), (h_t_desk_powers, .inl (cI, 8, .inl a_t_desk_powers)), (h_t_tape, .inr (6, [.ref h_t_tape_bytes, .int t_tape_size])), (h_t_tape_bytes, .inl (cI, 60, .inl a_t_tape_bytes)), (h_t_reader_causes, .inl (cI, 6, .inl a_t_reader_causes)), (h_t_deeds, .inr (0, [.ref h_t_deeds_desks, .int t_deeds_now, .int t_deeds_last])), (h_t_deeds_desks, .inl (cD, 9, .inr (.inr (.inr (.inr (fun i => some (d_t_deeds_desks i))))))), ((d_t_deeds_desks 0), .inr (1, [.int (t_deeds_desks_genus 0), .int (t_deeds_desks_size 0), .ref (q_t_deeds_desks 0), .int (t_deeds_desks_limit 0), .long (t_deeds_desks_tree 0)])), ((q_t_deeds_desks 0), .inl (cI, 8, .inl (a_t_deeds_desks 0))), ((d_t_deeds_desks 1), .inr (1, [.int (t_deeds_desks_genus 1), .int (t_deeds_desks_size 1), .ref (q_t_deeds_desks 1), .int (t_deeds_desks_limit 1), .long (t_deeds_desks_tree 1)])), ((q_t_deeds_desks 1), .inl (cI, 8, .inl (a_t_deeds_desks 1))), ((d_t_deeds_desks 2), .inr (1, [.int (t_deeds_desks_genus 2), .int (t_deeds_desks_size 2), .ref (q_t_deeds_desks 2), .int (t_deeds_desks_limit 2), .long (t_deeds_desks_tree 2)])), ((q_t_deeds_desks 2), .inl (cI, 8, .inl (a_t_deeds_desks 2))), ((d_t_deeds_desks 3), .inr (1, [.int (t_deeds_desks_genus 3), .int (t_deeds_desks_size 3), .ref (q_t_deeds_desks 3), .int (t_deeds_desks_limit 3), .long (t_deeds_desks_tree 3)])), ((q_t_deeds_desks 3), .inl (cI, 8, .inl (a_t_deeds_desks 3))), ((d_t_deeds_desks 4), .inr (1, [.int (t_deeds_desks_genus 4), .int (t_deeds_desks_size 4), .ref (q_t_deeds_desks 4), .int (t_deeds_desks_limit 4), .long (t_deeds_desks_tree 4)])), ((q_t_deeds_desks 4), .inl (cI, 8, .inl (a_t_deeds_desks 4))), ((d_t_deeds_desks 5), .inr (1, [.int (t_deeds_desks_genus 5), .int (t_deeds_desks_size 5), .ref (q_t_deeds_desks 5), .int (t_deeds_desks_limit 5), .long (t_deeds_desks_tree 5)])), ((q_t_deeds_desks 5), .inl (cI, 8, .inl (a_t_deeds_desks 5))), ((d_t_deeds_desks 6), .inr (1, [.int (t_deeds_desks_genus 6), .int (t_deeds_desks_size 6), .ref (q_t_deeds_desks 6), .int (t_deeds_desks_limit 6), .long (t_deeds_desks_tree 6)])), ((q_t_deeds_desks 6), .inl (cI, 8, .inl (a_t_deeds_desks 6))), ((d_t_deeds_desks 7), .inr (1, [.int (t_deeds_desks_genus 7), .int (t_deeds_desks_size 7), .ref (q_t_deeds_desks 7), .int (t_deeds_desks_limit 7), .long (t_deeds_desks_tree 7)])), ((q_t_deeds_desks 7), .inl (cI, 8, .inl (a_t_deeds_desks 7))), ((d_t_deeds_desks 8), .inr (1, [.int (t_deeds_desks_genus 8), .int (t_deeds_desks_size 8), .ref (q_t_deeds_desks 8), .int (t_deeds_desks_limit 8), .long (t_deeds_desks_tree 8)])), ((q_t_deeds_desks 8), .inl (cI, 8, .inl (a_t_deeds_desks 8)))] sz) [(h_t, .inr (7, [.ref h_t_desk, .ref h_t_imageDesk, .ref h_t_deeds, .ref h_t_numbers, .ref h_t_tape, .ref h_t_reader, .ref h_t_speller, .ref h_t_holders, .int t_imageKept])), (h_t_reader, .inr (4, [.ref h_t_tape, .ref h_t_reader_told, .ref h_t_reader_causes, .int w3, .int w4, .int w5])), (h_t_desk, .inr (1, [.int w6, .int w7, .ref h_t_desk_powers, .int w8, .long w9])), (h_t_reader_told, .inr (1, [.int w10, .int w11, .ref h_t_reader_told_powers, .int w12, .long w13])), (h_t_reader_told_powers, .inl (cI, 8, .inl w0)), (h_t_desk_powers, .inl (cI, 8, .inl w1)), (h_t_tape, .inr (6, [.ref h_t_tape_bytes, .int w14])), (h_t_tape_bytes, .inl (cI, 60, .inl a_t_tape_bytes)), (h_t_reader_causes, .inl (cI, 6, .inl w2)), (h_t_deeds, .inr (0, [.ref h_t_deeds_desks, .int w15, .int w16])), (h_t_deeds_desks, .inl (cD, 9, .inr (.inr (.inr (.inr (fun i => some (w18 i))))))), ((w18 0), .inr (1, [.int (w19 0), .int (w22 0), .ref (w21 0), .int (w20 0), .long (w23 0)])), ((w21 0), .inl (cI, 8, .inl (w17 0))), ((w18 1), .inr (1, [.int (w19 1), .int (w22 1), .ref (w21 1), .int (w20 1), .long (w23 1)])), ((w21 1), .inl (cI, 8, .inl (w17 1))), ((w18 2), .inr (1, [.int (w19 2), .int (w22 2), .ref (w21 2), .int (w20 2), .long (w23 2)])), ((w21 2), .inl (cI, 8, .inl (w17 2))), ((w18 3), .inr (1, [.int (w19 3), .int (w22 3), .ref (w21 3), .int (w20 3), .long (w23 3)])), ((w21 3), .inl (cI, 8, .inl (w17 3))), ((w18 4), .inr (1, [.int (w19 4), .int (w22 4), .ref (w21 4), .int (w20 4), .long (w23 4)])), ((w21 4), .inl (cI, 8, .inl (w17 4))), ((w18 5), .inr (1, [.int (w19 5), .int (w22 5), .ref (w21 5), .int (w20 5), .long (w23 5)])), ((w21 5), .inl (cI, 8, .inl (w17 5))), ((w18 6), .inr (1, [.int (w19 6), .int (w22 6), .ref (w21 6), .int (w20 6), .long (w23 6)])), ((w21 6), .inl (cI, 8, .inl (w17 6))), ((w18 7), .inr (1, [.int (w19 7), .int (w22 7), .ref (w21 7), .int (w20 7), .long (w23 7)])), ((w21 7), .inl (cI, 8, .inl (w17 7))), ((w18 8), .inr (1, [.int (w19 8), .int (w22 8), .ref (w21 8), .int (w20 8), .long (w23 8)])), ((w21 8), .inl (cI, 8, .inl (w17 8)))]) (va_A [(h_t, .inr (7, [.ref h_t_desk, .ref h_t_imageDesk, .ref h_t_deeds, .ref h_t_numbers, .ref h_t_tape, .ref h_t_reader, .ref h_t_speller, .ref h_t_holders, .int t_imageKept])), (h_t_reader, .inr (4, [.ref h_t_tape, .ref h_t_reader_told, .ref h_t_reader_causes, .int t_reader_refused, .int t_reader_place, .int t_reader_cannotBe])), (h_t_desk, .inr (1, [.int t_desk_genus, .int t_desk_size, .ref h_t_desk_powers, .int t_desk_limit, .long t_desk_tree])), (h_t_reader_told, .inr (1, [.int t_reader_told_genus, .int t_reader_told_size, .ref h_t_reader_told_powers, .int t_reader_told_limit, .long t_reader_told_tree])), (h_t_reader_told_powers, .inl (cI, 8, .inl a_t_reader_told_powers)), (h_t_desk_powers, .inl (cI, 8, .inl a_t_desk_powers)), (h_t_tape, .inr (6, [.ref h_t_tape_bytes, .int t_tape_size])), (h_t_tape_bytes, .inl (cI, 60, .inl a_t_tape_bytes)), (h_t_reader_causes, .inl (cI, 6, .inl a_t_reader_causes)), (h_t_deeds, .inr (0, [.ref h_t_deeds_desks, .int t_deeds_now, .int t_deeds_last])), (h_t_deeds_desks, .inl (cD, 9, .inr (.inr (.inr (.inr (fun i => some (d_t_deeds_desks i))))))), ((d_t_deeds_desks 0), .inr (1, [.int (t_deeds_desks_genus 0), .int (t_deeds_desks_size 0), .ref (q_t_deeds_desks 0), .int (t_deeds_desks_limit 0), .long (t_deeds_desks_tree 0)])), ((q_t_deeds_desks 0), .inl (cI, 8, .inl (a_t_deeds_desks 0))), ((d_t_deeds_desks 1), .inr (1, [.int (t_deeds_desks_genus 1), .int (t_deeds_desks_size 1), .ref (q_t_deeds_desks 1), .int (t_deeds_desks_limit 1), .long (t_deeds_desks_tree 1)])), ((q_t_deeds_desks 1), .inl (cI, 8, .inl (a_t_deeds_desks 1))), ((d_t_deeds_desks 2), .inr (1, [.int (t_deeds_desks_genus 2), .int (t_deeds_desks_size 2), .ref (q_t_deeds_desks 2), .int (t_deeds_desks_limit 2), .long (t_deeds_desks_tree 2)])), ((q_t_deeds_desks 2), .inl (cI, 8, .inl (a_t_deeds_desks 2))), ((d_t_deeds_desks 3), .inr (1, [.int (t_deeds_desks_genus 3), .int (t_deeds_desks_size 3), .ref (q_t_deeds_desks 3), .int (t_deeds_desks_limit 3), .long (t_deeds_desks_tree 3)])), ((q_t_deeds_desks 3), .inl (cI, 8, .inl (a_t_deeds_desks 3))), ((d_t_deeds_desks 4), .inr (1, [.int (t_deeds_desks_genus 4), .int (t_deeds_desks_size 4), .ref (q_t_deeds_desks 4), .int (t_deeds_desks_limit 4), .long (t_deeds_desks_tree 4)])), ((q_t_deeds_desks 4), .inl (cI, 8, .inl (a_t_deeds_desks 4))), ((d_t_deeds_desks 5), .inr (1, [.int (t_deeds_desks_genus 5), .int (t_deeds_desks_size 5), .ref (q_t_deeds_desks 5), .int (t_deeds_desks_limit 5), .long (t_deeds_desks_tree 5)])), ((q_t_deeds_desks 5), .inl (cI, 8, .inl (a_t_deeds_desks 5))), ((d_t_deeds_desks 6), .inr (1, [.int (t_deeds_desks_genus 6), .int (t_deeds_desks_size 6), .ref (q_t_deeds_desks 6), .int (t_deeds_desks_limit 6), .long (t_deeds_desks_tree 6)])), ((q_t_deeds_desks 6), .inl (cI, 8, .inl (a_t_deeds_desks 6))), ((d_t_deeds_desks 7), .inr (1, [.int (t_deeds_desks_genus 7), .int (t_deeds_desks_size 7), .ref (q_t_deeds_desks 7), .int (t_deeds_desks_limit 7), .long (t_deeds_desks_tree 7)])), ((q_t_deeds_desks 7), .inl (cI, 8, .inl (a_t_deeds_desks 7))), ((d_t_deeds_desks 8), .inr (1, [.int (t_deeds_desks_genus 8), .int (t_deeds_desks_size 8), .ref (q_t_deeds_desks 8), .int (t_deeds_desks_limit 8), .long (t_deeds_desks_tree 8)])), ((q_t_deeds_desks 8), .inl (cI, 8, .inl (a_t_deeds_desks 8)))] sz)) 0 0 (va_A [(h_t, .inr (7, [.ref h_t_desk, .ref h_t_imageDesk, .ref h_t_deeds, .ref h_t_numbers, .ref h_t_tape, .ref h_t_reader, .ref h_t_speller, .ref h_t_holders, .int t_imageKept])), (h_t_reader, .inr (4, [.ref h_t_tape, .ref h_t_reader_told, .ref h_t_reader_causes, .int t_reader_refused, .int t_reader_place, .int t_reader_cannotBe])), (h_t_desk, .inr (1, [.int t_desk_genus, .int t_desk_size, .ref h_t_desk_powers, .int t_desk_limit, .long t_desk_tree])), (h_t_reader_told, .inr (1, [.int t_reader_told_genus, .int t_reader_told_size, .ref h_t_reader_told_powers, .int t_reader_told_limit, .long t_reader_told_tree])), (h_t_reader_told_powers, .inl (cI, 8, .inl a_t_reader_told_powers)), (h_t_desk_powers, .inl (cI, 8, .inl a_t_desk_powers)), (h_t_tape, .inr (6, [.ref h_t_tape_bytes, .int t_tape_size])), (h_t_tape_bytes, .inl (cI, 60, .inl a_t_tape_bytes)), (h_t_reader_causes, .inl (cI, 6, .inl a_t_reader_causes)), (h_t_deeds, .inr (0, [.ref h_t_deeds_desks, .int t_deeds_now, .int t_deeds_last])), (h_t_deeds_desks, .inl (cD, 9, .inr (.inr (.inr (.inr (fun i => some (d_t_deeds_desks i))))))), ((d_t_deeds_desks 0), .inr (1, [.int (t_deeds_desks_genus 0), .int (t_deeds_desks_size 0), .ref (q_t_deeds_desks 0), .int (t_deeds_desks_limit 0), .long (t_deeds_desks_tree 0)])), ((q_t_deeds_desks 0), .inl (cI, 8, .inl (a_t_deeds_desks 0))), ((d_t_deeds_desks 1), .inr (1, [.int (t_deeds_desks_genus 1), .int (t_deeds_desks_size 1), .ref (q_t_deeds_desks 1), .int (t_deeds_desks_limit 1), .long (t_deeds_desks_tree 1)])), ((q_t_deeds_desks 1), .inl (cI, 8, .inl (a_t_deeds_desks 1))), ((d_t_deeds_desks 2), .inr (1, [.int (t_deeds_desks_genus 2), .int (t_deeds_desks_size 2), .ref (q_t_deeds_desks 2), .int (t_deeds_desks_limit 2), .long (t_deeds_desks_tree 2)])), ((q_t_deeds_desks 2), .inl (cI, 8, .inl (a_t_deeds_desks 2))), ((d_t_deeds_desks 3), .inr (1, [.int (t_deeds_desks_genus 3), .int (t_deeds_desks_size 3), .ref (q_t_deeds_desks 3), .int (t_deeds_desks_limit 3), .long (t_deeds_desks_tree 3)])), ((q_t_deeds_desks 3), .inl (cI, 8, .inl (a_t_deeds_desks 3))), ((d_t_deeds_desks 4), .inr (1, [.int (t_deeds_desks_genus 4), .int (t_deeds_desks_size 4), .ref (q_t_deeds_desks 4), .int (t_deeds_desks_limit 4), .long (t_deeds_desks_tree 4)])), ((q_t_deeds_desks 4), .inl (cI, 8, .inl (a_t_deeds_desks 4))), ((d_t_deeds_desks 5), .inr (1, [.int (t_deeds_desks_genus 5), .int (t_deeds_desks_size 5), .ref (q_t_deeds_desks 5), .int (t_deeds_desks_limit 5), .long (t_deeds_desks_tree 5)])), ((q_t_deeds_desks 5), .inl (cI, 8, .inl (a_t_deeds_desks 5))), ((d_t_deeds_desks 6), .inr (1, [.int (t_deeds_desks_genus 6), .int (t_deeds_desks_size 6), .ref (q_t_deeds_desks 6), .int (t_deeds_desks_limit 6), .long (t_deeds_desks_tree 6)])), ((q_t_deeds_desks 6), .inl (cI, 8, .inl (a_t_deeds_desks 6))), ((d_t_deeds_desks 7), .inr (1, [.int (t_deeds_desks_genus 7), .int (t_deeds_desks_size 7), .ref (q_t_deeds_desks 7), .int (t_deeds_desks_limit 7), .long (t_deeds_desks_tree 7)])), ((q_t_deeds_desks 7), .inl (cI, 8, .inl (a_t_deeds_desks 7))), ((d_t_deeds_desks 8), .inr (1, [.int (t_deeds_desks_genus 8), .int (t_deeds_desks_size 8), .ref (q_t_deeds_desks 8), .int (t_deeds_desks_limit 8), .long (t_deeds_desks_tree 8)])), ((q_t_deeds_desks 8), .inl (cI, 8, .inl (a_t_deeds_desks 8)))] sz) := by
  refine Met.ofW (cc := cX8_read) (maxL := 2) (ret := (some .int)) (by decide) rfl ?_
  intro p e s m args below meth c s₁ B hml hv
  obtain ⟨rfl, hsz, hP, hK, hD0⟩ := hv
  have hx := B.exec
  have hb := B.bytes
  have hr := B.returns
  have hts := atoms_spec (ws := wsX8_read) B.pre
  have hta : ∀ w ∈ wA, w.before ([.ref h_t] : List Value).toArray s = true := hta_of hts
  have hown : s.vm.findClass RX8 = some m.cls := findClass_of_methodNamed B.named
  have hlocks := B.notSynchronized
  subst hsz
  have hD := hD0.self (sz := s.heap.size)
  generalize hAe : va_A [(h_t, .inr (7, [.ref h_t_desk, .ref h_t_imageDesk, .ref h_t_deeds, .ref h_t_numbers, .ref h_t_tape, .ref h_t_reader, .ref h_t_speller, .ref h_t_holders, .int t_imageKept])), (h_t_reader, .inr (4, [.ref h_t_tape, .ref h_t_reader_told, .ref h_t_reader_causes, .int t_reader_refused, .int t_reader_place, .int t_reader_cannotBe])), (h_t_desk, .inr (1, [.int t_desk_genus, .int t_desk_size, .ref h_t_desk_powers, .int t_desk_limit, .long t_desk_tree])), (h_t_reader_told, .inr (1, [.int t_reader_told_genus, .int t_reader_told_size, .ref h_t_reader_told_powers, .int t_reader_told_limit, .long t_reader_told_tree])), (h_t_reader_told_powers, .inl (cI, 8, .inl a_t_reader_told_powers)), (h_t_desk_powers, .inl (cI, 8, .inl a_t_desk_powers)), (h_t_tape, .inr (6, [.ref h_t_tape_bytes, .int t_tape_size])), (h_t_tape_bytes, .inl (cI, 60, .inl a_t_tape_bytes)), (h_t_reader_causes, .inl (cI, 6, .inl a_t_reader_causes)), (h_t_deeds, .inr (0, [.ref h_t_deeds_desks, .int t_deeds_now, .int t_deeds_last])), (h_t_deeds_desks, .inl (cD, 9, .inr (.inr (.inr (.inr (fun i => some (d_t_deeds_desks i))))))), ((d_t_deeds_desks 0), .inr (1, [.int (t_deeds_desks_genus 0), .int (t_deeds_desks_size 0), .ref (q_t_deeds_desks 0), .int (t_deeds_desks_limit 0), .long (t_deeds_desks_tree 0)])), ((q_t_deeds_desks 0), .inl (cI, 8, .inl (a_t_deeds_desks 0))), ((d_t_deeds_desks 1), .inr (1, [.int (t_deeds_desks_genus 1), .int (t_deeds_desks_size 1), .ref (q_t_deeds_desks 1), .int (t_deeds_desks_limit 1), .long (t_deeds_desks_tree 1)])), ((q_t_deeds_desks 1), .inl (cI, 8, .inl (a_t_deeds_desks 1))), ((d_t_deeds_desks 2), .inr (1, [.int (t_deeds_desks_genus 2), .int (t_deeds_desks_size 2), .ref (q_t_deeds_desks 2), .int (t_deeds_desks_limit 2), .long (t_deeds_desks_tree 2)])), ((q_t_deeds_desks 2), .inl (cI, 8, .inl (a_t_deeds_desks 2))), ((d_t_deeds_desks 3), .inr (1, [.int (t_deeds_desks_genus 3), .int (t_deeds_desks_size 3), .ref (q_t_deeds_desks 3), .int (t_deeds_desks_limit 3), .long (t_deeds_desks_tree 3)])), ((q_t_deeds_desks 3), .inl (cI, 8, .inl (a_t_deeds_desks 3))), ((d_t_deeds_desks 4), .inr (1, [.int (t_deeds_desks_genus 4), .int (t_deeds_desks_size 4), .ref (q_t_deeds_desks 4), .int (t_deeds_desks_limit 4), .long (t_deeds_desks_tree 4)])), ((q_t_deeds_desks 4), .inl (cI, 8, .inl (a_t_deeds_desks 4))), ((d_t_deeds_desks 5), .inr (1, [.int (t_deeds_desks_genus 5), .int (t_deeds_desks_size 5), .ref (q_t_deeds_desks 5), .int (t_deeds_desks_limit 5), .long (t_deeds_desks_tree 5)])), ((q_t_deeds_desks 5), .inl (cI, 8, .inl (a_t_deeds_desks 5))), ((d_t_deeds_desks 6), .inr (1, [.int (t_deeds_desks_genus 6), .int (t_deeds_desks_size 6), .ref (q_t_deeds_desks 6), .int (t_deeds_desks_limit 6), .long (t_deeds_desks_tree 6)])), ((q_t_deeds_desks 6), .inl (cI, 8, .inl (a_t_deeds_desks 6))), ((d_t_deeds_desks 7), .inr (1, [.int (t_deeds_desks_genus 7), .int (t_deeds_desks_size 7), .ref (q_t_deeds_desks 7), .int (t_deeds_desks_limit 7), .long (t_deeds_desks_tree 7)])), ((q_t_deeds_desks 7), .inl (cI, 8, .inl (a_t_deeds_desks 7))), ((d_t_deeds_desks 8), .inr (1, [.int (t_deeds_desks_genus 8), .int (t_deeds_desks_size 8), .ref (q_t_deeds_desks 8), .int (t_deeds_desks_limit 8), .long (t_deeds_desks_tree 8)])), ((q_t_deeds_desks 8), .inl (cI, 8, .inl (a_t_deeds_desks 8)))] s.heap.size = A at hD ⊢
  have hA : ∀ q : Nat, s.heap.size ≤ q → A q := fun q h => by rw [← hAe]; exact Or.inr h
  have hS : va_S A s.heap s.heap [] := va_S.rf
  have hl := lv_entry ([.ref h_t]) (n := 2) (Nat.le_of_ble_eq_true rfl)
  rw [lg_entry_eq]
  generalize (lg_sl ([.ref h_t]) ++ List.replicate (2 - (lg_sl ([.ref h_t])).length) Slot.unset).toArray = ls at hl ⊢
  have hl : lv_has ls 2 [(0, .ref h_t)] := hl
  have hinX7 : ∀ w ∈ wsX70, w ∈ wsX8_read := hin_of in_X7
  have hinX8 : ∀ w ∈ wsX80, w ∈ wsX8_read := hin_of in_X8
  have h := hF
  unfold F_X8_read at h
  refine lv_aload_n hx hb dX8_read_0 rfl (lv_at hl 0 rfl) ?_
  refine va_get (D := G) (ci := 7) (v := .ref h_t_reader) (C := RX8) (T := TX8) (N := 9) hx hb hts hinX8 hown hK hP 0 rfl rfl 5 (by decide) (hta _ mw_368) (fun _ h9 => h9) rfl dX8_read_1 ?_
  refine lv_aload_n hx hb dX8_read_4 rfl (lv_at hl 0 rfl) ?_
  refine va_get (D := G) (ci := 7) (v := .ref h_t_desk) (C := RX8) (T := TX8) (N := 9) hx hb hts hinX8 hown hK hP 0 rfl rfl 0 (by decide) (hta _ mw_358) (fun _ h9 => h9) rfl dX8_read_5 ?_
  obtain ⟨x1, hx1, h⟩ := bd_e h
  try dsimp only at h
  refine k_ViM (n := 1) (As := [.ref h_t_desk]) (rest := []) hx hb hml hown hts (c_X4_readOver l G cI cJ cD cH s.heap.size h_t_reader h_t_desk h_t_reader_told h_t_reader_told_powers h_t_desk_powers h_t_tape h_t_tape_bytes h_t_reader_causes t_reader_refused t_reader_place t_reader_cannotBe t_desk_genus t_desk_size t_desk_limit t_desk_tree t_reader_told_genus t_reader_told_size t_reader_told_limit t_reader_told_tree a_t_reader_told_powers a_t_desk_powers t_tape_size a_t_tape_bytes a_t_reader_causes (x1.1) (x1.2.1) (x1.2.2.1) (x1.2.2.2.1) (x1.2.2.2.2.1) (x1.2.2.2.2.2.1) (x1.2.2.2.2.2.2.1) (x1.2.2.2.2.2.2.2.1) (x1.2.2.2.2.2.2.2.2.1) (x1.2.2.2.2.2.2.2.2.2.1) (x1.2.2.2.2.2.2.2.2.2.2.1) (x1.2.2.2.2.2.2.2.2.2.2.2.1) (x1.2.2.2.2.2.2.2.2.2.2.2.2.1) (x1.2.2.2.2.2.2.2.2.2.2.2.2.2.1) (x1.2.2.2.2.2.2.2.2.2.2.2.2.2.2) hx1) gX8_read_X4_readOver rfl rfl rfl (by decide +kernel) ⟨by first | exact Nat.le_of_ble_eq_true rfl | (simp only [headSpec]; omega), by first | exact Nat.le_of_ble_eq_true rfl | (simp only [headSpec]; omega)⟩ hK hP hD hS hA [1, 2, 3, 4, 5, 6, 7, 8] (by decide) rfl rfl (ci := 4) rfl rfl rfl rfl rfl hl.1 (Nat.le_of_ble_eq_true rfl) dX8_read_8 ⟨Nat.zero_le _, Nat.zero_le _⟩ [(h_t, .inr (7, [.ref h_t_desk, .ref h_t_imageDesk, .ref h_t_deeds, .ref h_t_numbers, .ref h_t_tape, .ref h_t_reader, .ref h_t_speller, .ref h_t_holders, .int t_imageKept])), (h_t_reader, .inr (4, [.ref h_t_tape, .ref h_t_reader_told, .ref h_t_reader_causes, .int (x1.2.2.2.2.1), .int (x1.2.2.2.2.2.1), .int (x1.2.2.2.2.2.2.1)])), (h_t_desk, .inr (1, [.int (x1.2.2.2.2.2.2.2.1), .int (x1.2.2.2.2.2.2.2.2.1), .ref h_t_desk_powers, .int (x1.2.2.2.2.2.2.2.2.2.1), .long (x1.2.2.2.2.2.2.2.2.2.2.1)])), (h_t_reader_told, .inr (1, [.int (x1.2.2.2.2.2.2.2.2.2.2.2.1), .int (x1.2.2.2.2.2.2.2.2.2.2.2.2.1), .ref h_t_reader_told_powers, .int (x1.2.2.2.2.2.2.2.2.2.2.2.2.2.1), .long (x1.2.2.2.2.2.2.2.2.2.2.2.2.2.2)])), (h_t_reader_told_powers, .inl (cI, 8, .inl (x1.2.1))), (h_t_desk_powers, .inl (cI, 8, .inl (x1.2.2.1))), (h_t_tape, .inr (6, [.ref h_t_tape_bytes, .int t_tape_size])), (h_t_tape_bytes, .inl (cI, 60, .inl a_t_tape_bytes)), (h_t_reader_causes, .inl (cI, 6, .inl (x1.2.2.2.1))), (h_t_deeds, .inr (0, [.ref h_t_deeds_desks, .int t_deeds_now, .int t_deeds_last])), (h_t_deeds_desks, .inl (cD, 9, .inr (.inr (.inr (.inr (fun i => some (d_t_deeds_desks i))))))), ((d_t_deeds_desks 0), .inr (1, [.int (t_deeds_desks_genus 0), .int (t_deeds_desks_size 0), .ref (q_t_deeds_desks 0), .int (t_deeds_desks_limit 0), .long (t_deeds_desks_tree 0)])), ((q_t_deeds_desks 0), .inl (cI, 8, .inl (a_t_deeds_desks 0))), ((d_t_deeds_desks 1), .inr (1, [.int (t_deeds_desks_genus 1), .int (t_deeds_desks_size 1), .ref (q_t_deeds_desks 1), .int (t_deeds_desks_limit 1), .long (t_deeds_desks_tree 1)])), ((q_t_deeds_desks 1), .inl (cI, 8, .inl (a_t_deeds_desks 1))), ((d_t_deeds_desks 2), .inr (1, [.int (t_deeds_desks_genus 2), .int (t_deeds_desks_size 2), .ref (q_t_deeds_desks 2), .int (t_deeds_desks_limit 2), .long (t_deeds_desks_tree 2)])), ((q_t_deeds_desks 2), .inl (cI, 8, .inl (a_t_deeds_desks 2))), ((d_t_deeds_desks 3), .inr (1, [.int (t_deeds_desks_genus 3), .int (t_deeds_desks_size 3), .ref (q_t_deeds_desks 3), .int (t_deeds_desks_limit 3), .long (t_deeds_desks_tree 3)])), ((q_t_deeds_desks 3), .inl (cI, 8, .inl (a_t_deeds_desks 3))), ((d_t_deeds_desks 4), .inr (1, [.int (t_deeds_desks_genus 4), .int (t_deeds_desks_size 4), .ref (q_t_deeds_desks 4), .int (t_deeds_desks_limit 4), .long (t_deeds_desks_tree 4)])), ((q_t_deeds_desks 4), .inl (cI, 8, .inl (a_t_deeds_desks 4))), ((d_t_deeds_desks 5), .inr (1, [.int (t_deeds_desks_genus 5), .int (t_deeds_desks_size 5), .ref (q_t_deeds_desks 5), .int (t_deeds_desks_limit 5), .long (t_deeds_desks_tree 5)])), ((q_t_deeds_desks 5), .inl (cI, 8, .inl (a_t_deeds_desks 5))), ((d_t_deeds_desks 6), .inr (1, [.int (t_deeds_desks_genus 6), .int (t_deeds_desks_size 6), .ref (q_t_deeds_desks 6), .int (t_deeds_desks_limit 6), .long (t_deeds_desks_tree 6)])), ((q_t_deeds_desks 6), .inl (cI, 8, .inl (a_t_deeds_desks 6))), ((d_t_deeds_desks 7), .inr (1, [.int (t_deeds_desks_genus 7), .int (t_deeds_desks_size 7), .ref (q_t_deeds_desks 7), .int (t_deeds_desks_limit 7), .long (t_deeds_desks_tree 7)])), ((q_t_deeds_desks 7), .inl (cI, 8, .inl (a_t_deeds_desks 7))), ((d_t_deeds_desks 8), .inr (1, [.int (t_deeds_desks_genus 8), .int (t_deeds_desks_size 8), .ref (q_t_deeds_desks 8), .int (t_deeds_desks_limit 8), .long (t_deeds_desks_tree 8)])), ((q_t_deeds_desks 8), .inl (cI, 8, .inl (a_t_deeds_desks 8)))] [0, 1, 2, 3, 4, 5, 6, 7, 8, 0, 0, 0, 0, 0, 0, 0, 0, 0, 0, 0, 0, 0, 0, 0, 0, 0, 0, 0, 0] 8 (by decide +kernel) rfl rfl rfl (fun hp1 H locs hP hD hS => ?_)
  refine lv_istore_n (lv' := [(1, .int (x1.1)), (0, .ref h_t)]) hx hb dX8_read_11 rfl hl (by decide) rfl (fun ls hl => ?_)
  refine lv_aload_n hx hb dX8_read_12 rfl (lv_at hl 1 rfl) ?_
  refine va_get (D := G) (ci := 7) (v := .ref h_t_tape) (C := RX8) (T := TX8) (N := 9) hx hb hts hinX8 hown hK hP 0 rfl rfl 4 (by decide) (hta _ mw_370) (fun _ h9 => h9) rfl dX8_read_13 ?_
  refine lv_iconst (v := (0 : Int32)) hx hb dX8_read_16 (by decide) ?_
  refine va_put (D := G) (ci := 6) (v := .int (0 : Int32)) (ty := .int) (C := RX7) (T := TX7) (N := 2) hx hb hts hinX7 tyX7 tyX7_ok nmX7 hown hK hP hD hS 6 rfl rfl 1 (by decide) (hta _ mw_535) (fun _ h9 => h9) rfl (by decide +kernel) rfl rfl (Nat.le_of_ble_eq_true rfl) dX8_read_17 (fun H locs hP hD hS => ?_)
  have hP : va_P G vwCl [(h_t, .inr (7, [.ref h_t_desk, .ref h_t_imageDesk, .ref h_t_deeds, .ref h_t_numbers, .ref h_t_tape, .ref h_t_reader, .ref h_t_speller, .ref h_t_holders, .int t_imageKept])), (h_t_reader, .inr (4, [.ref h_t_tape, .ref h_t_reader_told, .ref h_t_reader_causes, .int (x1.2.2.2.2.1), .int (x1.2.2.2.2.2.1), .int (x1.2.2.2.2.2.2.1)])), (h_t_desk, .inr (1, [.int (x1.2.2.2.2.2.2.2.1), .int (x1.2.2.2.2.2.2.2.2.1), .ref h_t_desk_powers, .int (x1.2.2.2.2.2.2.2.2.2.1), .long (x1.2.2.2.2.2.2.2.2.2.2.1)])), (h_t_reader_told, .inr (1, [.int (x1.2.2.2.2.2.2.2.2.2.2.2.1), .int (x1.2.2.2.2.2.2.2.2.2.2.2.2.1), .ref h_t_reader_told_powers, .int (x1.2.2.2.2.2.2.2.2.2.2.2.2.2.1), .long (x1.2.2.2.2.2.2.2.2.2.2.2.2.2.2)])), (h_t_reader_told_powers, .inl (cI, 8, .inl (x1.2.1))), (h_t_desk_powers, .inl (cI, 8, .inl (x1.2.2.1))), (h_t_tape, .inr (6, [.ref h_t_tape_bytes, .int (0 : Int32)])), (h_t_tape_bytes, .inl (cI, 60, .inl a_t_tape_bytes)), (h_t_reader_causes, .inl (cI, 6, .inl (x1.2.2.2.1))), (h_t_deeds, .inr (0, [.ref h_t_deeds_desks, .int t_deeds_now, .int t_deeds_last])), (h_t_deeds_desks, .inl (cD, 9, .inr (.inr (.inr (.inr (fun i => some (d_t_deeds_desks i))))))), ((d_t_deeds_desks 0), .inr (1, [.int (t_deeds_desks_genus 0), .int (t_deeds_desks_size 0), .ref (q_t_deeds_desks 0), .int (t_deeds_desks_limit 0), .long (t_deeds_desks_tree 0)])), ((q_t_deeds_desks 0), .inl (cI, 8, .inl (a_t_deeds_desks 0))), ((d_t_deeds_desks 1), .inr (1, [.int (t_deeds_desks_genus 1), .int (t_deeds_desks_size 1), .ref (q_t_deeds_desks 1), .int (t_deeds_desks_limit 1), .long (t_deeds_desks_tree 1)])), ((q_t_deeds_desks 1), .inl (cI, 8, .inl (a_t_deeds_desks 1))), ((d_t_deeds_desks 2), .inr (1, [.int (t_deeds_desks_genus 2), .int (t_deeds_desks_size 2), .ref (q_t_deeds_desks 2), .int (t_deeds_desks_limit 2), .long (t_deeds_desks_tree 2)])), ((q_t_deeds_desks 2), .inl (cI, 8, .inl (a_t_deeds_desks 2))), ((d_t_deeds_desks 3), .inr (1, [.int (t_deeds_desks_genus 3), .int (t_deeds_desks_size 3), .ref (q_t_deeds_desks 3), .int (t_deeds_desks_limit 3), .long (t_deeds_desks_tree 3)])), ((q_t_deeds_desks 3), .inl (cI, 8, .inl (a_t_deeds_desks 3))), ((d_t_deeds_desks 4), .inr (1, [.int (t_deeds_desks_genus 4), .int (t_deeds_desks_size 4), .ref (q_t_deeds_desks 4), .int (t_deeds_desks_limit 4), .long (t_deeds_desks_tree 4)])), ((q_t_deeds_desks 4), .inl (cI, 8, .inl (a_t_deeds_desks 4))), ((d_t_deeds_desks 5), .inr (1, [.int (t_deeds_desks_genus 5), .int (t_deeds_desks_size 5), .ref (q_t_deeds_desks 5), .int (t_deeds_desks_limit 5), .long (t_deeds_desks_tree 5)])), ((q_t_deeds_desks 5), .inl (cI, 8, .inl (a_t_deeds_desks 5))), ((d_t_deeds_desks 6), .inr (1, [.int (t_deeds_desks_genus 6), .int (t_deeds_desks_size 6), .ref (q_t_deeds_desks 6), .int (t_deeds_desks_limit 6), .long (t_deeds_desks_tree 6)])), ((q_t_deeds_desks 6), .inl (cI, 8, .inl (a_t_deeds_desks 6))), ((d_t_deeds_desks 7), .inr (1, [.int (t_deeds_desks_genus 7), .int (t_deeds_desks_size 7), .ref (q_t_deeds_desks 7), .int (t_deeds_desks_limit 7), .long (t_deeds_desks_tree 7)])), ((q_t_deeds_desks 7), .inl (cI, 8, .inl (a_t_deeds_desks 7))), ((d_t_deeds_desks 8), .inr (1, [.int (t_deeds_desks_genus 8), .int (t_deeds_desks_size 8), .ref (q_t_deeds_desks 8), .int (t_deeds_desks_limit 8), .long (t_deeds_desks_tree 8)])), ((q_t_deeds_desks 8), .inl (cI, 8, .inl (a_t_deeds_desks 8)))] H := hP
  have hD : va_D A [(h_t, .inr (7, [.ref h_t_desk, .ref h_t_imageDesk, .ref h_t_deeds, .ref h_t_numbers, .ref h_t_tape, .ref h_t_reader, .ref h_t_speller, .ref h_t_holders, .int t_imageKept])), (h_t_reader, .inr (4, [.ref h_t_tape, .ref h_t_reader_told, .ref h_t_reader_causes, .int (x1.2.2.2.2.1), .int (x1.2.2.2.2.2.1), .int (x1.2.2.2.2.2.2.1)])), (h_t_desk, .inr (1, [.int (x1.2.2.2.2.2.2.2.1), .int (x1.2.2.2.2.2.2.2.2.1), .ref h_t_desk_powers, .int (x1.2.2.2.2.2.2.2.2.2.1), .long (x1.2.2.2.2.2.2.2.2.2.2.1)])), (h_t_reader_told, .inr (1, [.int (x1.2.2.2.2.2.2.2.2.2.2.2.1), .int (x1.2.2.2.2.2.2.2.2.2.2.2.2.1), .ref h_t_reader_told_powers, .int (x1.2.2.2.2.2.2.2.2.2.2.2.2.2.1), .long (x1.2.2.2.2.2.2.2.2.2.2.2.2.2.2)])), (h_t_reader_told_powers, .inl (cI, 8, .inl (x1.2.1))), (h_t_desk_powers, .inl (cI, 8, .inl (x1.2.2.1))), (h_t_tape, .inr (6, [.ref h_t_tape_bytes, .int (0 : Int32)])), (h_t_tape_bytes, .inl (cI, 60, .inl a_t_tape_bytes)), (h_t_reader_causes, .inl (cI, 6, .inl (x1.2.2.2.1))), (h_t_deeds, .inr (0, [.ref h_t_deeds_desks, .int t_deeds_now, .int t_deeds_last])), (h_t_deeds_desks, .inl (cD, 9, .inr (.inr (.inr (.inr (fun i => some (d_t_deeds_desks i))))))), ((d_t_deeds_desks 0), .inr (1, [.int (t_deeds_desks_genus 0), .int (t_deeds_desks_size 0), .ref (q_t_deeds_desks 0), .int (t_deeds_desks_limit 0), .long (t_deeds_desks_tree 0)])), ((q_t_deeds_desks 0), .inl (cI, 8, .inl (a_t_deeds_desks 0))), ((d_t_deeds_desks 1), .inr (1, [.int (t_deeds_desks_genus 1), .int (t_deeds_desks_size 1), .ref (q_t_deeds_desks 1), .int (t_deeds_desks_limit 1), .long (t_deeds_desks_tree 1)])), ((q_t_deeds_desks 1), .inl (cI, 8, .inl (a_t_deeds_desks 1))), ((d_t_deeds_desks 2), .inr (1, [.int (t_deeds_desks_genus 2), .int (t_deeds_desks_size 2), .ref (q_t_deeds_desks 2), .int (t_deeds_desks_limit 2), .long (t_deeds_desks_tree 2)])), ((q_t_deeds_desks 2), .inl (cI, 8, .inl (a_t_deeds_desks 2))), ((d_t_deeds_desks 3), .inr (1, [.int (t_deeds_desks_genus 3), .int (t_deeds_desks_size 3), .ref (q_t_deeds_desks 3), .int (t_deeds_desks_limit 3), .long (t_deeds_desks_tree 3)])), ((q_t_deeds_desks 3), .inl (cI, 8, .inl (a_t_deeds_desks 3))), ((d_t_deeds_desks 4), .inr (1, [.int (t_deeds_desks_genus 4), .int (t_deeds_desks_size 4), .ref (q_t_deeds_desks 4), .int (t_deeds_desks_limit 4), .long (t_deeds_desks_tree 4)])), ((q_t_deeds_desks 4), .inl (cI, 8, .inl (a_t_deeds_desks 4))), ((d_t_deeds_desks 5), .inr (1, [.int (t_deeds_desks_genus 5), .int (t_deeds_desks_size 5), .ref (q_t_deeds_desks 5), .int (t_deeds_desks_limit 5), .long (t_deeds_desks_tree 5)])), ((q_t_deeds_desks 5), .inl (cI, 8, .inl (a_t_deeds_desks 5))), ((d_t_deeds_desks 6), .inr (1, [.int (t_deeds_desks_genus 6), .int (t_deeds_desks_size 6), .ref (q_t_deeds_desks 6), .int (t_deeds_desks_limit 6), .long (t_deeds_desks_tree 6)])), ((q_t_deeds_desks 6), .inl (cI, 8, .inl (a_t_deeds_desks 6))), ((d_t_deeds_desks 7), .inr (1, [.int (t_deeds_desks_genus 7), .int (t_deeds_desks_size 7), .ref (q_t_deeds_desks 7), .int (t_deeds_desks_limit 7), .long (t_deeds_desks_tree 7)])), ((q_t_deeds_desks 7), .inl (cI, 8, .inl (a_t_deeds_desks 7))), ((d_t_deeds_desks 8), .inr (1, [.int (t_deeds_desks_genus 8), .int (t_deeds_desks_size 8), .ref (q_t_deeds_desks 8), .int (t_deeds_desks_limit 8), .long (t_deeds_desks_tree 8)])), ((q_t_deeds_desks 8), .inl (cI, 8, .inl (a_t_deeds_desks 8)))] := hD
  refine lv_aload_n hx hb dX8_read_20 rfl (lv_at hl 1 rfl) ?_
  refine va_get (D := G) (ci := 7) (v := .ref h_t_deeds) (C := RX8) (T := TX8) (N := 9) hx hb hts hinX8 hown hK hP 0 rfl rfl 2 (by decide) (hta _ mw_362) (fun _ h9 => h9) rfl dX8_read_21 ?_
  refine lv_aload_n hx hb dX8_read_24 rfl (lv_at hl 1 rfl) ?_
  refine va_get (D := G) (ci := 7) (v := .ref h_t_desk) (C := RX8) (T := TX8) (N := 9) hx hb hts hinX8 hown hK hP 0 rfl rfl 0 (by decide) (hta _ mw_358) (fun _ h9 => h9) rfl dX8_read_25 ?_
  obtain ⟨x2, hx2, h⟩ := bd_e h
  try dsimp only at h
  refine k_VvPM (n := 1) (As := [.ref h_t_desk]) (rest := []) hx hb hml hown hts (c_X0_settle l G cI cJ cD cH H.size h_t_deeds h_t_desk h_t_deeds_desks h_t_desk_powers d_t_deeds_desks q_t_deeds_desks a_t_deeds_desks t_deeds_desks_genus t_deeds_desks_size t_deeds_desks_limit t_deeds_desks_tree t_deeds_now t_deeds_last (x1.2.2.2.2.2.2.2.1) (x1.2.2.2.2.2.2.2.2.1) (x1.2.2.2.2.2.2.2.2.2.1) (x1.2.2.2.2.2.2.2.2.2.2.1) (x1.2.2.1) (x2.1) (x2.2.1) (x2.2.2.1) (x2.2.2.2.1) (x2.2.2.2.2.1) (x2.2.2.2.2.2.1) (x2.2.2.2.2.2.2.1) (x2.2.2.2.2.2.2.2.1) (x2.2.2.2.2.2.2.2.2) hx2) gX8_read_X0_settle rfl rfl rfl (by decide +kernel) ⟨by first | exact Nat.le_of_ble_eq_true rfl | (simp only [headSpec]; omega), by first | exact Nat.le_of_ble_eq_true rfl | (simp only [headSpec]; omega)⟩ hK hP hD hS hA [9, 2, 10, 11, 12, 13, 14, 15, 16, 17, 18, 19, 20, 21, 22, 23, 24, 25, 26, 27, 28, 5] (by decide) rfl rfl (ci := 0) rfl rfl rfl rfl rfl hl.1 (Nat.le_of_ble_eq_true rfl) dX8_read_28 ⟨Nat.zero_le _, Nat.zero_le _⟩ [(h_t, .inr (7, [.ref h_t_desk, .ref h_t_imageDesk, .ref h_t_deeds, .ref h_t_numbers, .ref h_t_tape, .ref h_t_reader, .ref h_t_speller, .ref h_t_holders, .int t_imageKept])), (h_t_reader, .inr (4, [.ref h_t_tape, .ref h_t_reader_told, .ref h_t_reader_causes, .int (x1.2.2.2.2.1), .int (x1.2.2.2.2.2.1), .int (x1.2.2.2.2.2.2.1)])), (h_t_desk, .inr (1, [.int (x1.2.2.2.2.2.2.2.1), .int (x1.2.2.2.2.2.2.2.2.1), .ref h_t_desk_powers, .int (x1.2.2.2.2.2.2.2.2.2.1), .long (x1.2.2.2.2.2.2.2.2.2.2.1)])), (h_t_reader_told, .inr (1, [.int (x1.2.2.2.2.2.2.2.2.2.2.2.1), .int (x1.2.2.2.2.2.2.2.2.2.2.2.2.1), .ref h_t_reader_told_powers, .int (x1.2.2.2.2.2.2.2.2.2.2.2.2.2.1), .long (x1.2.2.2.2.2.2.2.2.2.2.2.2.2.2)])), (h_t_reader_told_powers, .inl (cI, 8, .inl (x1.2.1))), (h_t_desk_powers, .inl (cI, 8, .inl (x1.2.2.1))), (h_t_tape, .inr (6, [.ref h_t_tape_bytes, .int (0 : Int32)])), (h_t_tape_bytes, .inl (cI, 60, .inl a_t_tape_bytes)), (h_t_reader_causes, .inl (cI, 6, .inl (x1.2.2.2.1))), (h_t_deeds, .inr (0, [.ref h_t_deeds_desks, .int (x2.1), .int (x2.2.1)])), (h_t_deeds_desks, .inl (cD, 9, .inr (.inr (.inr (.inr (fun i => some ((x2.2.2.2.1) i))))))), (((x2.2.2.2.1) 0), .inr (1, [.int ((x2.2.2.2.2.1) 0), .int ((x2.2.2.2.2.2.2.2.1) 0), .ref ((x2.2.2.2.2.2.2.1) 0), .int ((x2.2.2.2.2.2.1) 0), .long ((x2.2.2.2.2.2.2.2.2) 0)])), (((x2.2.2.2.2.2.2.1) 0), .inl (cI, 8, .inl ((x2.2.2.1) 0))), (((x2.2.2.2.1) 1), .inr (1, [.int ((x2.2.2.2.2.1) 1), .int ((x2.2.2.2.2.2.2.2.1) 1), .ref ((x2.2.2.2.2.2.2.1) 1), .int ((x2.2.2.2.2.2.1) 1), .long ((x2.2.2.2.2.2.2.2.2) 1)])), (((x2.2.2.2.2.2.2.1) 1), .inl (cI, 8, .inl ((x2.2.2.1) 1))), (((x2.2.2.2.1) 2), .inr (1, [.int ((x2.2.2.2.2.1) 2), .int ((x2.2.2.2.2.2.2.2.1) 2), .ref ((x2.2.2.2.2.2.2.1) 2), .int ((x2.2.2.2.2.2.1) 2), .long ((x2.2.2.2.2.2.2.2.2) 2)])), (((x2.2.2.2.2.2.2.1) 2), .inl (cI, 8, .inl ((x2.2.2.1) 2))), (((x2.2.2.2.1) 3), .inr (1, [.int ((x2.2.2.2.2.1) 3), .int ((x2.2.2.2.2.2.2.2.1) 3), .ref ((x2.2.2.2.2.2.2.1) 3), .int ((x2.2.2.2.2.2.1) 3), .long ((x2.2.2.2.2.2.2.2.2) 3)])), (((x2.2.2.2.2.2.2.1) 3), .inl (cI, 8, .inl ((x2.2.2.1) 3))), (((x2.2.2.2.1) 4), .inr (1, [.int ((x2.2.2.2.2.1) 4), .int ((x2.2.2.2.2.2.2.2.1) 4), .ref ((x2.2.2.2.2.2.2.1) 4), .int ((x2.2.2.2.2.2.1) 4), .long ((x2.2.2.2.2.2.2.2.2) 4)])), (((x2.2.2.2.2.2.2.1) 4), .inl (cI, 8, .inl ((x2.2.2.1) 4))), (((x2.2.2.2.1) 5), .inr (1, [.int ((x2.2.2.2.2.1) 5), .int ((x2.2.2.2.2.2.2.2.1) 5), .ref ((x2.2.2.2.2.2.2.1) 5), .int ((x2.2.2.2.2.2.1) 5), .long ((x2.2.2.2.2.2.2.2.2) 5)])), (((x2.2.2.2.2.2.2.1) 5), .inl (cI, 8, .inl ((x2.2.2.1) 5))), (((x2.2.2.2.1) 6), .inr (1, [.int ((x2.2.2.2.2.1) 6), .int ((x2.2.2.2.2.2.2.2.1) 6), .ref ((x2.2.2.2.2.2.2.1) 6), .int ((x2.2.2.2.2.2.1) 6), .long ((x2.2.2.2.2.2.2.2.2) 6)])), (((x2.2.2.2.2.2.2.1) 6), .inl (cI, 8, .inl ((x2.2.2.1) 6))), (((x2.2.2.2.1) 7), .inr (1, [.int ((x2.2.2.2.2.1) 7), .int ((x2.2.2.2.2.2.2.2.1) 7), .ref ((x2.2.2.2.2.2.2.1) 7), .int ((x2.2.2.2.2.2.1) 7), .long ((x2.2.2.2.2.2.2.2.2) 7)])), (((x2.2.2.2.2.2.2.1) 7), .inl (cI, 8, .inl ((x2.2.2.1) 7))), (((x2.2.2.2.1) 8), .inr (1, [.int ((x2.2.2.2.2.1) 8), .int ((x2.2.2.2.2.2.2.2.1) 8), .ref ((x2.2.2.2.2.2.2.1) 8), .int ((x2.2.2.2.2.2.1) 8), .long ((x2.2.2.2.2.2.2.2.2) 8)])), (((x2.2.2.2.2.2.2.1) 8), .inl (cI, 8, .inl ((x2.2.2.1) 8)))] [0, 0, 2, 0, 0, 22, 0, 0, 0, 1, 3, 4, 5, 6, 7, 8, 9, 10, 11, 12, 13, 14, 15, 16, 17, 18, 19, 20, 21] 22 (by decide +kernel) rfl rfl (fun hp2 H locs hP hD hS => ?_)
  refine lv_iload_n hx hb dX8_read_31 rfl (lv_at hl 0 rfl) ?_
  have h9 := Option.some.inj h
  have e9 : (x1.1) = r0 := congrArg (fun z9 => z9.1) h9
  rw [← e9]
  have e9 : (x1.2.1) = w0 := congrArg (fun z9 => z9.2.1) h9
  rw [← e9]
  have e9 : (x1.2.2.1) = w1 := congrArg (fun z9 => z9.2.2.1) h9
  rw [← e9]
  have e9 : (x1.2.2.2.1) = w2 := congrArg (fun z9 => z9.2.2.2.1) h9
  rw [← e9]
  have e9 : (x1.2.2.2.2.1) = w3 := congrArg (fun z9 => z9.2.2.2.2.1) h9
  rw [← e9]
  have e9 : (x1.2.2.2.2.2.1) = w4 := congrArg (fun z9 => z9.2.2.2.2.2.1) h9
  rw [← e9]
  have e9 : (x1.2.2.2.2.2.2.1) = w5 := congrArg (fun z9 => z9.2.2.2.2.2.2.1) h9
  rw [← e9]
  have e9 : (x1.2.2.2.2.2.2.2.1) = w6 := congrArg (fun z9 => z9.2.2.2.2.2.2.2.1) h9
  rw [← e9]
  have e9 : (x1.2.2.2.2.2.2.2.2.1) = w7 := congrArg (fun z9 => z9.2.2.2.2.2.2.2.2.1) h9
  rw [← e9]
  have e9 : (x1.2.2.2.2.2.2.2.2.2.1) = w8 := congrArg (fun z9 => z9.2.2.2.2.2.2.2.2.2.1) h9
  rw [← e9]
  have e9 : (x1.2.2.2.2.2.2.2.2.2.2.1) = w9 := congrArg (fun z9 => z9.2.2.2.2.2.2.2.2.2.2.1) h9
  rw [← e9]
  have e9 : (x1.2.2.2.2.2.2.2.2.2.2.2.1) = w10 := congrArg (fun z9 => z9.2.2.2.2.2.2.2.2.2.2.2.1) h9
  rw [← e9]
  have e9 : (x1.2.2.2.2.2.2.2.2.2.2.2.2.1) = w11 := congrArg (fun z9 => z9.2.2.2.2.2.2.2.2.2.2.2.2.1) h9
  rw [← e9]
  have e9 : (x1.2.2.2.2.2.2.2.2.2.2.2.2.2.1) = w12 := congrArg (fun z9 => z9.2.2.2.2.2.2.2.2.2.2.2.2.2.1) h9
  rw [← e9]
  have e9 : (x1.2.2.2.2.2.2.2.2.2.2.2.2.2.2) = w13 := congrArg (fun z9 => z9.2.2.2.2.2.2.2.2.2.2.2.2.2.2.1) h9
  rw [← e9]
  have e9 : (0 : Int32) = w14 := congrArg (fun z9 => z9.2.2.2.2.2.2.2.2.2.2.2.2.2.2.2.1) h9
  rw [← e9]
  have e9 : (x2.1) = w15 := congrArg (fun z9 => z9.2.2.2.2.2.2.2.2.2.2.2.2.2.2.2.2.1) h9
  rw [← e9]
  have e9 : (x2.2.1) = w16 := congrArg (fun z9 => z9.2.2.2.2.2.2.2.2.2.2.2.2.2.2.2.2.2.1) h9
  rw [← e9]
  have e9 : (x2.2.2.1) = w17 := congrArg (fun z9 => z9.2.2.2.2.2.2.2.2.2.2.2.2.2.2.2.2.2.2.1) h9
  rw [← e9]
  have e9 : (x2.2.2.2.1) = w18 := congrArg (fun z9 => z9.2.2.2.2.2.2.2.2.2.2.2.2.2.2.2.2.2.2.2.1) h9
  rw [← e9]
  have e9 : (x2.2.2.2.2.1) = w19 := congrArg (fun z9 => z9.2.2.2.2.2.2.2.2.2.2.2.2.2.2.2.2.2.2.2.2.1) h9
  rw [← e9]
  have e9 : (x2.2.2.2.2.2.1) = w20 := congrArg (fun z9 => z9.2.2.2.2.2.2.2.2.2.2.2.2.2.2.2.2.2.2.2.2.2.1) h9
  rw [← e9]
  have e9 : (x2.2.2.2.2.2.2.1) = w21 := congrArg (fun z9 => z9.2.2.2.2.2.2.2.2.2.2.2.2.2.2.2.2.2.2.2.2.2.2.1) h9
  rw [← e9]
  have e9 : (x2.2.2.2.2.2.2.2.1) = w22 := congrArg (fun z9 => z9.2.2.2.2.2.2.2.2.2.2.2.2.2.2.2.2.2.2.2.2.2.2.2.1) h9
  rw [← e9]
  have e9 : (x2.2.2.2.2.2.2.2.2) = w23 := congrArg (fun z9 => z9.2.2.2.2.2.2.2.2.2.2.2.2.2.2.2.2.2.2.2.2.2.2.2.2) h9
  rw [← e9]
  exact k_iretP hx hb hr hlocks hD hP hS rfl dX8_read_32

/-! X8_why -/
set_option maxHeartbeats 4000000 in
set_option maxRecDepth 100000 in
theorem c_X8_why (l : Launch) (G : va_G) (cI cJ cD cH : ClassId) (sz : Nat) (h_t : Nat) (h_t_reader : Nat) (h_t_reader_causes : Nat) (h_t_desk : Nat) (h_t_imageDesk : Nat) (h_t_deeds : Nat) (h_t_numbers : Nat) (h_t_tape : Nat) (h_t_speller : Nat) (h_t_holders : Nat) (h_t_reader_told : Nat) (t_imageKept : Int32) (t_reader_refused : Int32) (t_reader_place : Int32) (t_reader_cannotBe : Int32) (a_t_reader_causes : Nat → Int32) (p0 : Int32) (p1 : Int32) (r0 : Int32) (hF : F_X8_why t_reader_refused a_t_reader_causes p0 p1 = some r0) : Met l yX8_why wsX8_why ({ frames := 1, cells := 0, slots := 0, locals := 23 }) (k_pre G (k_T cI cJ cD cH) [(h_t, .inr (7, [.ref h_t_desk, .ref h_t_imageDesk, .ref h_t_deeds, .ref h_t_numbers, .ref h_t_tape, .ref h_t_reader, .ref h_t_speller, .ref h_t_holders, .int t_imageKept])), (h_t_reader, .inr (4, [.ref h_t_tape, .ref h_t_reader_told, .ref h_t_reader_causes, .int t_reader_refused, .int t_reader_place, .int t_reader_cannotBe])), (h_t_reader_causes, .inl (cI, 6, .inl a_t_reader_causes))] sz [.ref h_t, .int p0, .int p1]) (va_Qi (fun r (_ : Unit) => r = r0 ∧ True) (fun _ t => va_P G vwCl [(h_t, .inr (7, [.ref h_t_desk, .ref h_t_imageDesk, .ref h_t_deeds, .ref h_t_numbers, .ref h_t_tape, .ref h_t_reader, .ref h_t_speller, .ref h_t_holders, .int t_imageKept])), (h_t_reader, .inr (4, [.ref h_t_tape, .ref h_t_reader_told, .ref h_t_reader_causes, .int t_reader_refused, .int t_reader_place, .int t_reader_cannotBe])), (h_t_reader_causes, .inl (cI, 6, .inl a_t_reader_causes))] t.heap) (va_A [(h_t, .inr (7, [.ref h_t_desk, .ref h_t_imageDesk, .ref h_t_deeds, .ref h_t_numbers, .ref h_t_tape, .ref h_t_reader, .ref h_t_speller, .ref h_t_holders, .int t_imageKept])), (h_t_reader, .inr (4, [.ref h_t_tape, .ref h_t_reader_told, .ref h_t_reader_causes, .int t_reader_refused, .int t_reader_place, .int t_reader_cannotBe])), (h_t_reader_causes, .inl (cI, 6, .inl a_t_reader_causes))] sz)) 0 0 (va_A [(h_t, .inr (7, [.ref h_t_desk, .ref h_t_imageDesk, .ref h_t_deeds, .ref h_t_numbers, .ref h_t_tape, .ref h_t_reader, .ref h_t_speller, .ref h_t_holders, .int t_imageKept])), (h_t_reader, .inr (4, [.ref h_t_tape, .ref h_t_reader_told, .ref h_t_reader_causes, .int t_reader_refused, .int t_reader_place, .int t_reader_cannotBe])), (h_t_reader_causes, .inl (cI, 6, .inl a_t_reader_causes))] sz) := by
  refine Met.ofW (cc := cX8_why) (maxL := 3) (ret := (some .int)) (by decide) rfl ?_
  intro p e s m args below meth c s₁ B hml hv
  obtain ⟨rfl, hsz, hP, hK, hD0⟩ := hv
  have hx := B.exec
  have hb := B.bytes
  have hr := B.returns
  have hts := atoms_spec (ws := wsX8_why) B.pre
  have hta : ∀ w ∈ wA, w.before ([.ref h_t, .int p0, .int p1] : List Value).toArray s = true := hta_of hts
  have hown : s.vm.findClass RX8 = some m.cls := findClass_of_methodNamed B.named
  have hlocks := B.notSynchronized
  subst hsz
  have hD := hD0.self (sz := s.heap.size)
  generalize hAe : va_A [(h_t, .inr (7, [.ref h_t_desk, .ref h_t_imageDesk, .ref h_t_deeds, .ref h_t_numbers, .ref h_t_tape, .ref h_t_reader, .ref h_t_speller, .ref h_t_holders, .int t_imageKept])), (h_t_reader, .inr (4, [.ref h_t_tape, .ref h_t_reader_told, .ref h_t_reader_causes, .int t_reader_refused, .int t_reader_place, .int t_reader_cannotBe])), (h_t_reader_causes, .inl (cI, 6, .inl a_t_reader_causes))] s.heap.size = A at hD ⊢
  have hA : ∀ q : Nat, s.heap.size ≤ q → A q := fun q h => by rw [← hAe]; exact Or.inr h
  have hS : va_S A s.heap s.heap [] := va_S.rf
  have hl := lv_entry ([.ref h_t, .int p0, .int p1]) (n := 3) (Nat.le_of_ble_eq_true rfl)
  rw [lg_entry_eq]
  generalize (lg_sl ([.ref h_t, .int p0, .int p1]) ++ List.replicate (3 - (lg_sl ([.ref h_t, .int p0, .int p1])).length) Slot.unset).toArray = ls at hl ⊢
  have hl : lv_has ls 3 [(0, .ref h_t), (1, .int p0), (2, .int p1)] := hl
  have hinX4 : ∀ w ∈ wsX40, w ∈ wsX8_why := hin_of in_X4
  have hinX8 : ∀ w ∈ wsX80, w ∈ wsX8_why := hin_of in_X8
  have h := hF
  unfold F_X8_why at h
  refine lv_iload_n hx hb dX8_why_0 rfl (lv_at hl 1 rfl) ?_
  refine lv_if_lt (tgt := 18) hx hb dX8_why_1 (by decide) (fun c1 => ?_) (fun c1 => ?_)
  · have h := it_p h c1
    refine lv_iconst (v := (-1 : Int32)) hx hb dX8_why_18 (by decide) ?_
    have h9 := Option.some.inj h
    have e9 : (-1 : Int32) = r0 := congrArg (fun z9 => z9) h9
    rw [← e9]
    exact k_iret hx hb hr hlocks hP hS rfl dX8_why_19
  have h := it_n h c1
  refine lv_iload_n hx hb dX8_why_4 rfl (lv_at hl 1 rfl) ?_
  refine lv_iconst (v := (2 : Int32)) hx hb dX8_why_5 (by decide) ?_
  refine lv_icmp_gt (tgt := 18) hx hb dX8_why_6 (by decide) (fun c2 => ?_) (fun c2 => ?_)
  · have h := it_p h c2
    refine lv_iconst (v := (-1 : Int32)) hx hb dX8_why_18 (by decide) ?_
    have h9 := Option.some.inj h
    have e9 : (-1 : Int32) = r0 := congrArg (fun z9 => z9) h9
    rw [← e9]
    exact k_iret hx hb hr hlocks hP hS rfl dX8_why_19
  have h := it_n h c2
  refine lv_iload_n hx hb dX8_why_9 rfl (lv_at hl 2 rfl) ?_
  refine lv_if_lt (tgt := 18) hx hb dX8_why_10 (by decide) (fun c3 => ?_) (fun c3 => ?_)
  · have h := it_p h c3
    refine lv_iconst (v := (-1 : Int32)) hx hb dX8_why_18 (by decide) ?_
    have h9 := Option.some.inj h
    have e9 : (-1 : Int32) = r0 := congrArg (fun z9 => z9) h9
    rw [← e9]
    exact k_iret hx hb hr hlocks hP hS rfl dX8_why_19
  have h := it_n h c3
  refine lv_iload_n hx hb dX8_why_13 rfl (lv_at hl 2 rfl) ?_
  refine lv_iconst (v := (1 : Int32)) hx hb dX8_why_14 (by decide) ?_
  refine lv_icmp_le (tgt := 20) hx hb dX8_why_15 (by decide) (fun c4 => ?_) (fun c4 => ?_)
  rotate_left
  · have h := it_n h c4
    refine lv_iconst (v := (-1 : Int32)) hx hb dX8_why_18 (by decide) ?_
    have h9 := Option.some.inj h
    have e9 : (-1 : Int32) = r0 := congrArg (fun z9 => z9) h9
    rw [← e9]
    exact k_iret hx hb hr hlocks hP hS rfl dX8_why_19
  have h := it_p h c4
  refine lv_aload_n hx hb dX8_why_20 rfl (lv_at hl 0 rfl) ?_
  refine va_get (D := G) (ci := 7) (v := .ref h_t_reader) (C := RX8) (T := TX8) (N := 9) hx hb hts hinX8 hown hK hP 0 rfl rfl 5 (by decide) (hta _ mw_368) (fun _ h9 => h9) rfl dX8_why_21 ?_
  refine va_get (D := G) (ci := 4) (v := .int t_reader_refused) (C := RX4) (T := TX4) (N := 6) hx hb hts hinX4 hown hK hP 1 rfl rfl 3 (by decide) (hta _ mw_545) (fun _ h9 => h9) rfl dX8_why_24 ?_
  refine lv_if_eq (tgt := 42) hx hb dX8_why_27 (by decide) (fun c5 => ?_) (fun c5 => ?_)
  · have h := it_p h c5
    refine lv_bipush (v := (-2 : Int32)) hx hb dX8_why_42 (by decide) ?_
    have h9 := Option.some.inj h
    have e9 : (-2 : Int32) = r0 := congrArg (fun z9 => z9) h9
    rw [← e9]
    exact k_iret hx hb hr hlocks hP hS rfl dX8_why_44
  have h := it_n h c5
  refine lv_aload_n hx hb dX8_why_30 rfl (lv_at hl 0 rfl) ?_
  refine va_get (D := G) (ci := 7) (v := .ref h_t_reader) (C := RX8) (T := TX8) (N := 9) hx hb hts hinX8 hown hK hP 0 rfl rfl 5 (by decide) (hta _ mw_368) (fun _ h9 => h9) rfl dX8_why_31 ?_
  refine lv_iload_n hx hb dX8_why_34 rfl (lv_at hl 1 rfl) ?_
  refine lv_iload_n hx hb dX8_why_35 rfl (lv_at hl 2 rfl) ?_
  obtain ⟨x6, hx6, h⟩ := bd_e h
  try dsimp only at h
  refine k_ViU (n := 2) (As := [.int p0, .int p1]) (rest := []) hx hb hml hown hts (c_X4_causeAt l G cI cJ cD cH s.heap.size h_t_reader h_t_reader_causes h_t_tape h_t_reader_told t_reader_refused t_reader_place t_reader_cannotBe a_t_reader_causes p0 p1 x6 hx6) gX8_why_X4_causeAt rfl rfl rfl (by decide +kernel) ⟨by first | exact Nat.le_of_ble_eq_true rfl | (simp only [headSpec]; omega), by first | exact Nat.le_of_ble_eq_true rfl | (simp only [headSpec]; omega)⟩ hK hP hD hS hA [1, 2] (by decide) rfl (ci := 4) rfl rfl rfl rfl rfl hl.1 (Nat.le_of_ble_eq_true rfl) dX8_why_36 ⟨Nat.zero_le _, Nat.zero_le _⟩ (fun hp6 H locs hP hS => ?_)
  refine lv_goto (tgt := 44) hx hb dX8_why_39 (by decide) ?_
  have h9 := Option.some.inj h
  have e9 : x6 = r0 := congrArg (fun z9 => z9) h9
  rw [← e9]
  exact k_iret hx hb hr hlocks hP hS rfl dX8_why_44

/-! X8_spell -/
set_option maxHeartbeats 4000000 in
set_option maxRecDepth 100000 in
theorem c_X8_spell (l : Launch) (G : va_G) (cI cJ cD cH : ClassId) (sz : Nat) (h_t : Nat) (h_t_speller : Nat) (h_t_desk : Nat) (h_t_speller_bytes : Nat) (h_t_desk_powers : Nat) (h_t_imageDesk : Nat) (h_t_deeds : Nat) (h_t_numbers : Nat) (h_t_tape : Nat) (h_t_reader : Nat) (h_t_holders : Nat) (t_imageKept : Int32) (t_speller_size : Int32) (t_desk_genus : Int32) (t_desk_size : Int32) (t_desk_limit : Int32) (t_desk_tree : Int64) (a_t_speller_bytes : Nat → Int32) (a_t_desk_powers : Nat → Int32) (p0 : Int32) (r0 : Int32) (w0 : Nat → Int32) (w1 : Int32) (hF : F_X8_spell t_speller_size t_desk_genus t_desk_size t_desk_limit t_desk_tree a_t_speller_bytes a_t_desk_powers p0 = some (r0, w0, w1)) : Met l yX8_spell wsX8_spell ({ frames := 4, cells := 0, slots := 0, locals := 87 }) (k_pre G (k_T cI cJ cD cH) [(h_t, .inr (7, [.ref h_t_desk, .ref h_t_imageDesk, .ref h_t_deeds, .ref h_t_numbers, .ref h_t_tape, .ref h_t_reader, .ref h_t_speller, .ref h_t_holders, .int t_imageKept])), (h_t_speller, .inr (5, [.ref h_t_speller_bytes, .int t_speller_size])), (h_t_desk, .inr (1, [.int t_desk_genus, .int t_desk_size, .ref h_t_desk_powers, .int t_desk_limit, .long t_desk_tree])), (h_t_speller_bytes, .inl (cI, 39, .inl a_t_speller_bytes)), (h_t_desk_powers, .inl (cI, 8, .inl a_t_desk_powers))] sz [.ref h_t, .int p0]) (va_Qi (fun r (_ : Unit) => r = r0 ∧ True) (fun _ t => va_P G vwCl [(h_t, .inr (7, [.ref h_t_desk, .ref h_t_imageDesk, .ref h_t_deeds, .ref h_t_numbers, .ref h_t_tape, .ref h_t_reader, .ref h_t_speller, .ref h_t_holders, .int t_imageKept])), (h_t_speller, .inr (5, [.ref h_t_speller_bytes, .int w1])), (h_t_desk, .inr (1, [.int t_desk_genus, .int t_desk_size, .ref h_t_desk_powers, .int t_desk_limit, .long t_desk_tree])), (h_t_speller_bytes, .inl (cI, 39, .inl w0)), (h_t_desk_powers, .inl (cI, 8, .inl a_t_desk_powers))] t.heap) (va_A [(h_t, .inr (7, [.ref h_t_desk, .ref h_t_imageDesk, .ref h_t_deeds, .ref h_t_numbers, .ref h_t_tape, .ref h_t_reader, .ref h_t_speller, .ref h_t_holders, .int t_imageKept])), (h_t_speller, .inr (5, [.ref h_t_speller_bytes, .int t_speller_size])), (h_t_desk, .inr (1, [.int t_desk_genus, .int t_desk_size, .ref h_t_desk_powers, .int t_desk_limit, .long t_desk_tree])), (h_t_speller_bytes, .inl (cI, 39, .inl a_t_speller_bytes)), (h_t_desk_powers, .inl (cI, 8, .inl a_t_desk_powers))] sz)) 0 0 (va_A [(h_t, .inr (7, [.ref h_t_desk, .ref h_t_imageDesk, .ref h_t_deeds, .ref h_t_numbers, .ref h_t_tape, .ref h_t_reader, .ref h_t_speller, .ref h_t_holders, .int t_imageKept])), (h_t_speller, .inr (5, [.ref h_t_speller_bytes, .int t_speller_size])), (h_t_desk, .inr (1, [.int t_desk_genus, .int t_desk_size, .ref h_t_desk_powers, .int t_desk_limit, .long t_desk_tree])), (h_t_speller_bytes, .inl (cI, 39, .inl a_t_speller_bytes)), (h_t_desk_powers, .inl (cI, 8, .inl a_t_desk_powers))] sz) := by
  refine Met.ofW (cc := cX8_spell) (maxL := 2) (ret := (some .int)) (by decide) rfl ?_
  intro p e s m args below meth c s₁ B hml hv
  obtain ⟨rfl, hsz, hP, hK, hD0⟩ := hv
  have hx := B.exec
  have hb := B.bytes
  have hr := B.returns
  have hts := atoms_spec (ws := wsX8_spell) B.pre
  have hta : ∀ w ∈ wA, w.before ([.ref h_t, .int p0] : List Value).toArray s = true := hta_of hts
  have hown : s.vm.findClass RX8 = some m.cls := findClass_of_methodNamed B.named
  have hlocks := B.notSynchronized
  subst hsz
  have hD := hD0.self (sz := s.heap.size)
  generalize hAe : va_A [(h_t, .inr (7, [.ref h_t_desk, .ref h_t_imageDesk, .ref h_t_deeds, .ref h_t_numbers, .ref h_t_tape, .ref h_t_reader, .ref h_t_speller, .ref h_t_holders, .int t_imageKept])), (h_t_speller, .inr (5, [.ref h_t_speller_bytes, .int t_speller_size])), (h_t_desk, .inr (1, [.int t_desk_genus, .int t_desk_size, .ref h_t_desk_powers, .int t_desk_limit, .long t_desk_tree])), (h_t_speller_bytes, .inl (cI, 39, .inl a_t_speller_bytes)), (h_t_desk_powers, .inl (cI, 8, .inl a_t_desk_powers))] s.heap.size = A at hD ⊢
  have hA : ∀ q : Nat, s.heap.size ≤ q → A q := fun q h => by rw [← hAe]; exact Or.inr h
  have hS : va_S A s.heap s.heap [] := va_S.rf
  have hl := lv_entry ([.ref h_t, .int p0]) (n := 2) (Nat.le_of_ble_eq_true rfl)
  rw [lg_entry_eq]
  generalize (lg_sl ([.ref h_t, .int p0]) ++ List.replicate (2 - (lg_sl ([.ref h_t, .int p0])).length) Slot.unset).toArray = ls at hl ⊢
  have hl : lv_has ls 2 [(0, .ref h_t), (1, .int p0)] := hl
  have hinX5 : ∀ w ∈ wsX50, w ∈ wsX8_spell := hin_of in_X5
  have hinX8 : ∀ w ∈ wsX80, w ∈ wsX8_spell := hin_of in_X8
  have h := hF
  unfold F_X8_spell at h
  refine lv_iload_n hx hb dX8_spell_0 rfl (lv_at hl 1 rfl) ?_
  refine lv_iconst (v := (-1 : Int32)) hx hb dX8_spell_1 (by decide) ?_
  refine lv_icmp_ge (tgt := 7) hx hb dX8_spell_2 (by decide) (fun c1 => ?_) (fun c1 => ?_)
  rotate_left
  · have h := it_n h c1
    refine lv_iconst (v := (-1 : Int32)) hx hb dX8_spell_5 (by decide) ?_
    have h9 := Option.some.inj h
    have e9 : (-1 : Int32) = r0 := congrArg (fun z9 => z9.1) h9
    rw [← e9]
    have e9 : a_t_speller_bytes = w0 := congrArg (fun z9 => z9.2.1) h9
    rw [← e9]
    have e9 : t_speller_size = w1 := congrArg (fun z9 => z9.2.2) h9
    rw [← e9]
    exact k_iret hx hb hr hlocks hP hS rfl dX8_spell_6
  have h := it_p h c1
  refine lv_aload_n hx hb dX8_spell_7 rfl (lv_at hl 0 rfl) ?_
  refine va_get (D := G) (ci := 7) (v := .ref h_t_speller) (C := RX8) (T := TX8) (N := 9) hx hb hts hinX8 hown hK hP 0 rfl rfl 6 (by decide) (hta _ mw_373) (fun _ h9 => h9) rfl dX8_spell_8 ?_
  refine lv_aload_n hx hb dX8_spell_11 rfl (lv_at hl 0 rfl) ?_
  refine va_get (D := G) (ci := 7) (v := .ref h_t_desk) (C := RX8) (T := TX8) (N := 9) hx hb hts hinX8 hown hK hP 0 rfl rfl 0 (by decide) (hta _ mw_358) (fun _ h9 => h9) rfl dX8_spell_12 ?_
  obtain ⟨x2, hx2, h⟩ := bd_e h
  try dsimp only at h
  refine k_VvM (n := 1) (As := [.ref h_t_desk]) (rest := []) hx hb hml hown hts (c_X5_tell l G cI cJ cD cH s.heap.size h_t_speller h_t_desk h_t_speller_bytes h_t_desk_powers t_speller_size t_desk_genus t_desk_size t_desk_limit t_desk_tree a_t_speller_bytes a_t_desk_powers (x2.1) (x2.2) hx2) gX8_spell_X5_tell rfl rfl rfl (by decide +kernel) ⟨by first | exact Nat.le_of_ble_eq_true rfl | (simp only [headSpec]; omega), by first | exact Nat.le_of_ble_eq_true rfl | (simp only [headSpec]; omega)⟩ hK hP hD hS hA [1, 2, 3, 4] (by decide) rfl rfl (ci := 5) rfl rfl rfl rfl rfl hl.1 (Nat.le_of_ble_eq_true rfl) dX8_spell_15 ⟨Nat.zero_le _, Nat.zero_le _⟩ [(h_t, .inr (7, [.ref h_t_desk, .ref h_t_imageDesk, .ref h_t_deeds, .ref h_t_numbers, .ref h_t_tape, .ref h_t_reader, .ref h_t_speller, .ref h_t_holders, .int t_imageKept])), (h_t_speller, .inr (5, [.ref h_t_speller_bytes, .int (x2.2)])), (h_t_desk, .inr (1, [.int t_desk_genus, .int t_desk_size, .ref h_t_desk_powers, .int t_desk_limit, .long t_desk_tree])), (h_t_speller_bytes, .inl (cI, 39, .inl (x2.1))), (h_t_desk_powers, .inl (cI, 8, .inl a_t_desk_powers))] [0, 1, 2, 3, 4] 4 (by decide +kernel) rfl rfl rfl (fun hp2 H locs hP hD hS => ?_)
  refine lv_iload_n hx hb dX8_spell_18 rfl (lv_at hl 1 rfl) ?_
  refine lv_iconst (v := (-1 : Int32)) hx hb dX8_spell_19 (by decide) ?_
  refine lv_icmp_ne (tgt := 33) hx hb dX8_spell_20 (by decide) (fun c3 => ?_) (fun c3 => ?_)
  rotate_left
  · have h := it_p h c3
    refine lv_aload_n hx hb dX8_spell_23 rfl (lv_at hl 0 rfl) ?_
    refine va_get (D := G) (ci := 7) (v := .ref h_t_speller) (C := RX8) (T := TX8) (N := 9) hx hb hts hinX8 hown hK hP 0 rfl rfl 6 (by decide) (hta _ mw_373) (fun _ h9 => h9) rfl dX8_spell_24 ?_
    refine va_get (D := G) (ci := 5) (v := .int (x2.2)) (C := RX5) (T := TX5) (N := 2) hx hb hts hinX5 hown hK hP 1 rfl rfl 1 (by decide) (hta _ mw_550) (fun _ h9 => h9) rfl dX8_spell_27 ?_
    refine lv_goto (tgt := 41) hx hb dX8_spell_30 (by decide) ?_
    have h9 := Option.some.inj h
    have e9 : (x2.2) = r0 := congrArg (fun z9 => z9.1) h9
    rw [← e9]
    have e9 : (x2.1) = w0 := congrArg (fun z9 => z9.2.1) h9
    rw [← e9]
    have e9 : (x2.2) = w1 := congrArg (fun z9 => z9.2.2) h9
    rw [← e9]
    exact k_iret hx hb hr hlocks hP hS rfl dX8_spell_41
  have h := it_n h c3
  refine lv_aload_n hx hb dX8_spell_33 rfl (lv_at hl 0 rfl) ?_
  refine va_get (D := G) (ci := 7) (v := .ref h_t_speller) (C := RX8) (T := TX8) (N := 9) hx hb hts hinX8 hown hK hP 0 rfl rfl 6 (by decide) (hta _ mw_373) (fun _ h9 => h9) rfl dX8_spell_34 ?_
  refine lv_iload_n hx hb dX8_spell_37 rfl (lv_at hl 1 rfl) ?_
  obtain ⟨x4, hx4, h⟩ := bd_e h
  try dsimp only at h
  refine k_ViU (n := 1) (As := [.int p0]) (rest := []) hx hb hml hown hts (c_X5_byteAt l G cI cJ cD cH H.size h_t_speller h_t_speller_bytes (x2.2) (x2.1) p0 x4 hx4) gX8_spell_X5_byteAt rfl rfl rfl (by decide +kernel) ⟨by first | exact Nat.le_of_ble_eq_true rfl | (simp only [headSpec]; omega), by first | exact Nat.le_of_ble_eq_true rfl | (simp only [headSpec]; omega)⟩ hK hP hD hS hA [1, 3] (by decide) rfl (ci := 5) rfl rfl rfl rfl rfl hl.1 (Nat.le_of_ble_eq_true rfl) dX8_spell_38 ⟨Nat.zero_le _, Nat.zero_le _⟩ (fun hp4 H locs hP hS => ?_)
  have h9 := Option.some.inj h
  have e9 : x4 = r0 := congrArg (fun z9 => z9.1) h9
  rw [← e9]
  have e9 : (x2.1) = w0 := congrArg (fun z9 => z9.2.1) h9
  rw [← e9]
  have e9 : (x2.2) = w1 := congrArg (fun z9 => z9.2.2) h9
  rw [← e9]
  exact k_iret hx hb hr hlocks hP hS rfl dX8_spell_41

/-! X8_holderAt -/
set_option maxHeartbeats 40000000 in
set_option maxRecDepth 100000 in
theorem c_X8_holderAt (l : Launch) (G : va_G) (cI cJ cD cH : ClassId) (sz : Nat) (h_t : Nat) (h_t_holders : Nat) (h_t_desk : Nat) (h_t_imageDesk : Nat) (h_t_deeds : Nat) (h_t_numbers : Nat) (h_t_tape : Nat) (h_t_reader : Nat) (h_t_speller : Nat) (d_t_holders : Nat → Nat) (q_t_holders : Nat → Nat) (a_t_holders : Nat → Nat → Int32) (t_holders_sort : Nat → Int32) (t_holders_tree : Nat → Int64) (t_holders_limit : Nat → Int32) (t_holders_above : Nat → Int64) (t_holders_size : Nat → Int32) (t_imageKept : Int32) (p0 : Int32) (r0 : Nat) (hF : F_X8_holderAt p0 = some r0) : Met l yX8_holderAt wsX8_holderAt ({ frames := 0, cells := 0, slots := 0, locals := 0 }) (k_pre G (k_T cI cJ cD cH) [(h_t, .inr (7, [.ref h_t_desk, .ref h_t_imageDesk, .ref h_t_deeds, .ref h_t_numbers, .ref h_t_tape, .ref h_t_reader, .ref h_t_speller, .ref h_t_holders, .int t_imageKept])), (h_t_holders, .inl (cH, 6, .inr (.inr (.inr (.inr (fun i => some (d_t_holders i))))))), ((d_t_holders 0), .inr (2, [.int (t_holders_sort 0), .long (t_holders_tree 0), .int (t_holders_limit 0), .ref (q_t_holders 0), .long (t_holders_above 0), .int (t_holders_size 0)])), ((q_t_holders 0), .inl (cI, 20, .inl (a_t_holders 0))), ((d_t_holders 1), .inr (2, [.int (t_holders_sort 1), .long (t_holders_tree 1), .int (t_holders_limit 1), .ref (q_t_holders 1), .long (t_holders_above 1), .int (t_holders_size 1)])), ((q_t_holders 1), .inl (cI, 20, .inl (a_t_holders 1))), ((d_t_holders 2), .inr (2, [.int (t_holders_sort 2), .long (t_holders_tree 2), .int (t_holders_limit 2), .ref (q_t_holders 2), .long (t_holders_above 2), .int (t_holders_size 2)])), ((q_t_holders 2), .inl (cI, 20, .inl (a_t_holders 2))), ((d_t_holders 3), .inr (2, [.int (t_holders_sort 3), .long (t_holders_tree 3), .int (t_holders_limit 3), .ref (q_t_holders 3), .long (t_holders_above 3), .int (t_holders_size 3)])), ((q_t_holders 3), .inl (cI, 20, .inl (a_t_holders 3))), ((d_t_holders 4), .inr (2, [.int (t_holders_sort 4), .long (t_holders_tree 4), .int (t_holders_limit 4), .ref (q_t_holders 4), .long (t_holders_above 4), .int (t_holders_size 4)])), ((q_t_holders 4), .inl (cI, 20, .inl (a_t_holders 4))), ((d_t_holders 5), .inr (2, [.int (t_holders_sort 5), .long (t_holders_tree 5), .int (t_holders_limit 5), .ref (q_t_holders 5), .long (t_holders_above 5), .int (t_holders_size 5)])), ((q_t_holders 5), .inl (cI, 20, .inl (a_t_holders 5)))] sz [.ref h_t, .int p0]) (va_Qq (fun r (_ : Unit) => r = (if r0 = 6 then none else (some (d_t_holders r0)))) (fun _ t => va_P G vwCl [(h_t, .inr (7, [.ref h_t_desk, .ref h_t_imageDesk, .ref h_t_deeds, .ref h_t_numbers, .ref h_t_tape, .ref h_t_reader, .ref h_t_speller, .ref h_t_holders, .int t_imageKept])), (h_t_holders, .inl (cH, 6, .inr (.inr (.inr (.inr (fun i => some (d_t_holders i))))))), ((d_t_holders 0), .inr (2, [.int (t_holders_sort 0), .long (t_holders_tree 0), .int (t_holders_limit 0), .ref (q_t_holders 0), .long (t_holders_above 0), .int (t_holders_size 0)])), ((q_t_holders 0), .inl (cI, 20, .inl (a_t_holders 0))), ((d_t_holders 1), .inr (2, [.int (t_holders_sort 1), .long (t_holders_tree 1), .int (t_holders_limit 1), .ref (q_t_holders 1), .long (t_holders_above 1), .int (t_holders_size 1)])), ((q_t_holders 1), .inl (cI, 20, .inl (a_t_holders 1))), ((d_t_holders 2), .inr (2, [.int (t_holders_sort 2), .long (t_holders_tree 2), .int (t_holders_limit 2), .ref (q_t_holders 2), .long (t_holders_above 2), .int (t_holders_size 2)])), ((q_t_holders 2), .inl (cI, 20, .inl (a_t_holders 2))), ((d_t_holders 3), .inr (2, [.int (t_holders_sort 3), .long (t_holders_tree 3), .int (t_holders_limit 3), .ref (q_t_holders 3), .long (t_holders_above 3), .int (t_holders_size 3)])), ((q_t_holders 3), .inl (cI, 20, .inl (a_t_holders 3))), ((d_t_holders 4), .inr (2, [.int (t_holders_sort 4), .long (t_holders_tree 4), .int (t_holders_limit 4), .ref (q_t_holders 4), .long (t_holders_above 4), .int (t_holders_size 4)])), ((q_t_holders 4), .inl (cI, 20, .inl (a_t_holders 4))), ((d_t_holders 5), .inr (2, [.int (t_holders_sort 5), .long (t_holders_tree 5), .int (t_holders_limit 5), .ref (q_t_holders 5), .long (t_holders_above 5), .int (t_holders_size 5)])), ((q_t_holders 5), .inl (cI, 20, .inl (a_t_holders 5)))] t.heap) (va_A [(h_t, .inr (7, [.ref h_t_desk, .ref h_t_imageDesk, .ref h_t_deeds, .ref h_t_numbers, .ref h_t_tape, .ref h_t_reader, .ref h_t_speller, .ref h_t_holders, .int t_imageKept])), (h_t_holders, .inl (cH, 6, .inr (.inr (.inr (.inr (fun i => some (d_t_holders i))))))), ((d_t_holders 0), .inr (2, [.int (t_holders_sort 0), .long (t_holders_tree 0), .int (t_holders_limit 0), .ref (q_t_holders 0), .long (t_holders_above 0), .int (t_holders_size 0)])), ((q_t_holders 0), .inl (cI, 20, .inl (a_t_holders 0))), ((d_t_holders 1), .inr (2, [.int (t_holders_sort 1), .long (t_holders_tree 1), .int (t_holders_limit 1), .ref (q_t_holders 1), .long (t_holders_above 1), .int (t_holders_size 1)])), ((q_t_holders 1), .inl (cI, 20, .inl (a_t_holders 1))), ((d_t_holders 2), .inr (2, [.int (t_holders_sort 2), .long (t_holders_tree 2), .int (t_holders_limit 2), .ref (q_t_holders 2), .long (t_holders_above 2), .int (t_holders_size 2)])), ((q_t_holders 2), .inl (cI, 20, .inl (a_t_holders 2))), ((d_t_holders 3), .inr (2, [.int (t_holders_sort 3), .long (t_holders_tree 3), .int (t_holders_limit 3), .ref (q_t_holders 3), .long (t_holders_above 3), .int (t_holders_size 3)])), ((q_t_holders 3), .inl (cI, 20, .inl (a_t_holders 3))), ((d_t_holders 4), .inr (2, [.int (t_holders_sort 4), .long (t_holders_tree 4), .int (t_holders_limit 4), .ref (q_t_holders 4), .long (t_holders_above 4), .int (t_holders_size 4)])), ((q_t_holders 4), .inl (cI, 20, .inl (a_t_holders 4))), ((d_t_holders 5), .inr (2, [.int (t_holders_sort 5), .long (t_holders_tree 5), .int (t_holders_limit 5), .ref (q_t_holders 5), .long (t_holders_above 5), .int (t_holders_size 5)])), ((q_t_holders 5), .inl (cI, 20, .inl (a_t_holders 5)))] sz)) 0 0 (va_A [(h_t, .inr (7, [.ref h_t_desk, .ref h_t_imageDesk, .ref h_t_deeds, .ref h_t_numbers, .ref h_t_tape, .ref h_t_reader, .ref h_t_speller, .ref h_t_holders, .int t_imageKept])), (h_t_holders, .inl (cH, 6, .inr (.inr (.inr (.inr (fun i => some (d_t_holders i))))))), ((d_t_holders 0), .inr (2, [.int (t_holders_sort 0), .long (t_holders_tree 0), .int (t_holders_limit 0), .ref (q_t_holders 0), .long (t_holders_above 0), .int (t_holders_size 0)])), ((q_t_holders 0), .inl (cI, 20, .inl (a_t_holders 0))), ((d_t_holders 1), .inr (2, [.int (t_holders_sort 1), .long (t_holders_tree 1), .int (t_holders_limit 1), .ref (q_t_holders 1), .long (t_holders_above 1), .int (t_holders_size 1)])), ((q_t_holders 1), .inl (cI, 20, .inl (a_t_holders 1))), ((d_t_holders 2), .inr (2, [.int (t_holders_sort 2), .long (t_holders_tree 2), .int (t_holders_limit 2), .ref (q_t_holders 2), .long (t_holders_above 2), .int (t_holders_size 2)])), ((q_t_holders 2), .inl (cI, 20, .inl (a_t_holders 2))), ((d_t_holders 3), .inr (2, [.int (t_holders_sort 3), .long (t_holders_tree 3), .int (t_holders_limit 3), .ref (q_t_holders 3), .long (t_holders_above 3), .int (t_holders_size 3)])), ((q_t_holders 3), .inl (cI, 20, .inl (a_t_holders 3))), ((d_t_holders 4), .inr (2, [.int (t_holders_sort 4), .long (t_holders_tree 4), .int (t_holders_limit 4), .ref (q_t_holders 4), .long (t_holders_above 4), .int (t_holders_size 4)])), ((q_t_holders 4), .inl (cI, 20, .inl (a_t_holders 4))), ((d_t_holders 5), .inr (2, [.int (t_holders_sort 5), .long (t_holders_tree 5), .int (t_holders_limit 5), .ref (q_t_holders 5), .long (t_holders_above 5), .int (t_holders_size 5)])), ((q_t_holders 5), .inl (cI, 20, .inl (a_t_holders 5)))] sz) := by
  refine Met.ofW (cc := cX8_holderAt) (maxL := 2) (ret := (some (.object "MarkedCurves$Holder"))) (by decide) rfl ?_
  intro p e s m args below meth c s₁ B hml hv
  obtain ⟨rfl, hsz, hP, hK, hD0⟩ := hv
  have hx := B.exec
  have hb := B.bytes
  have hr := B.returns
  have hts := atoms_spec (ws := wsX8_holderAt) B.pre
  have hta : ∀ w ∈ wA, w.before ([.ref h_t, .int p0] : List Value).toArray s = true := hta_of hts
  have hown : s.vm.findClass RX8 = some m.cls := findClass_of_methodNamed B.named
  have hlocks := B.notSynchronized
  subst hsz
  have hD := hD0.self (sz := s.heap.size)
  generalize hAe : va_A [(h_t, .inr (7, [.ref h_t_desk, .ref h_t_imageDesk, .ref h_t_deeds, .ref h_t_numbers, .ref h_t_tape, .ref h_t_reader, .ref h_t_speller, .ref h_t_holders, .int t_imageKept])), (h_t_holders, .inl (cH, 6, .inr (.inr (.inr (.inr (fun i => some (d_t_holders i))))))), ((d_t_holders 0), .inr (2, [.int (t_holders_sort 0), .long (t_holders_tree 0), .int (t_holders_limit 0), .ref (q_t_holders 0), .long (t_holders_above 0), .int (t_holders_size 0)])), ((q_t_holders 0), .inl (cI, 20, .inl (a_t_holders 0))), ((d_t_holders 1), .inr (2, [.int (t_holders_sort 1), .long (t_holders_tree 1), .int (t_holders_limit 1), .ref (q_t_holders 1), .long (t_holders_above 1), .int (t_holders_size 1)])), ((q_t_holders 1), .inl (cI, 20, .inl (a_t_holders 1))), ((d_t_holders 2), .inr (2, [.int (t_holders_sort 2), .long (t_holders_tree 2), .int (t_holders_limit 2), .ref (q_t_holders 2), .long (t_holders_above 2), .int (t_holders_size 2)])), ((q_t_holders 2), .inl (cI, 20, .inl (a_t_holders 2))), ((d_t_holders 3), .inr (2, [.int (t_holders_sort 3), .long (t_holders_tree 3), .int (t_holders_limit 3), .ref (q_t_holders 3), .long (t_holders_above 3), .int (t_holders_size 3)])), ((q_t_holders 3), .inl (cI, 20, .inl (a_t_holders 3))), ((d_t_holders 4), .inr (2, [.int (t_holders_sort 4), .long (t_holders_tree 4), .int (t_holders_limit 4), .ref (q_t_holders 4), .long (t_holders_above 4), .int (t_holders_size 4)])), ((q_t_holders 4), .inl (cI, 20, .inl (a_t_holders 4))), ((d_t_holders 5), .inr (2, [.int (t_holders_sort 5), .long (t_holders_tree 5), .int (t_holders_limit 5), .ref (q_t_holders 5), .long (t_holders_above 5), .int (t_holders_size 5)])), ((q_t_holders 5), .inl (cI, 20, .inl (a_t_holders 5)))] s.heap.size = A at hD ⊢
  have hA : ∀ q : Nat, s.heap.size ≤ q → A q := fun q h => by rw [← hAe]; exact Or.inr h
  have hS : va_S A s.heap s.heap [] := va_S.rf
  have hl := lv_entry ([.ref h_t, .int p0]) (n := 2) (Nat.le_of_ble_eq_true rfl)
  rw [lg_entry_eq]
  generalize (lg_sl ([.ref h_t, .int p0]) ++ List.replicate (2 - (lg_sl ([.ref h_t, .int p0])).length) Slot.unset).toArray = ls at hl ⊢
  have hl : lv_has ls 2 [(0, .ref h_t), (1, .int p0)] := hl
  have hinX8 : ∀ w ∈ wsX80, w ∈ wsX8_holderAt := hin_of in_X8
  have h := hF
  unfold F_X8_holderAt at h
  refine lv_iload_n hx hb dX8_holderAt_0 rfl (lv_at hl 1 rfl) ?_
  refine lv_if_lt (tgt := 19) hx hb dX8_holderAt_1 (by decide) (fun c1 => ?_) (fun c1 => ?_)
  · have h := it_p h c1
    refine lv_null hx hb dX8_holderAt_19 ?_
    have h9 := Option.some.inj h
    have e9 : 6 = r0 := congrArg (fun z9 => z9) h9
    rw [← e9]
    exact k_aret (ro := none) hx hb hr (Or.inl ⟨_, rfl⟩) hlocks hP hS rfl dX8_holderAt_20
  have h := it_n h c1
  refine lv_iload_n hx hb dX8_holderAt_4 rfl (lv_at hl 1 rfl) ?_
  refine lv_bipush (v := (6 : Int32)) hx hb dX8_holderAt_5 (by decide) ?_
  refine lv_icmp_ge (tgt := 19) hx hb dX8_holderAt_7 (by decide) (fun c2 => ?_) (fun c2 => ?_)
  · have h := it_p h c2
    refine lv_null hx hb dX8_holderAt_19 ?_
    have h9 := Option.some.inj h
    have e9 : 6 = r0 := congrArg (fun z9 => z9) h9
    rw [← e9]
    exact k_aret (ro := none) hx hb hr (Or.inl ⟨_, rfl⟩) hlocks hP hS rfl dX8_holderAt_20
  have h := it_n h c2
  refine lv_aload_n hx hb dX8_holderAt_10 rfl (lv_at hl 0 rfl) ?_
  refine va_get (D := G) (ci := 7) (v := .ref h_t_holders) (C := RX8) (T := TX8) (N := 9) hx hb hts hinX8 hown hK hP 0 rfl rfl 7 (by decide) (hta _ mw_375) (fun _ h9 => h9) rfl dX8_holderAt_11 ?_
  refine lv_iload_n hx hb dX8_holderAt_14 rfl (lv_at hl 1 rfl) ?_
  obtain ⟨hn3, h⟩ := ck_e h
  refine va_aldq hx hb hK hP 1 3 rfl rfl hn3 dX8_holderAt_15 ?_
  refine W.eq (g2 := F0 m 16 ls [.ref (d_t_holders p0.toNatClampNeg)]) rfl ?_
  refine lv_goto (tgt := 20) hx hb dX8_holderAt_16 (by decide) ?_
  have h9 := Option.some.inj h
  have e9 : p0.toNatClampNeg = r0 := congrArg (fun z9 => z9) h9
  rw [← e9]
  exact k_aret (ro := (some (d_t_holders p0.toNatClampNeg))) hx hb hr (Or.inl ⟨_, rfl⟩) hlocks hP hS (by rw [if_neg (k_ne6 hn3)]) dX8_holderAt_20
theorem k_lt_X8_holderAt {p0 : Int32} {r : Nat} (h : F_X8_holderAt p0 = some r) : r < 7 := by
  unfold F_X8_holderAt at h
  split at h
  · cases h; decide
  · split at h
    · cases h; decide
    · obtain ⟨hn, h⟩ := ck_e h
      cases h; have := k_in_lt hn; omega

/-! X8_hold -/
set_option maxHeartbeats 40000000 in
set_option maxRecDepth 100000 in
theorem c_X8_hold (l : Launch) (G : va_G) (cI cJ cD cH : ClassId) (sz : Nat) (h_t : Nat) (h_t_holders : Nat) (h_t_desk : Nat) (h_t_numbers : Nat) (h_t_desk_powers : Nat) (h_t_numbers_keys : Nat) (h_t_numbers_aboves : Nat) (h_t_imageDesk : Nat) (h_t_deeds : Nat) (h_t_tape : Nat) (h_t_reader : Nat) (h_t_speller : Nat) (h_t_numbers_rounds : Nat) (d_t_holders : Nat → Nat) (q_t_holders : Nat → Nat) (a_t_holders : Nat → Nat → Int32) (t_holders_sort : Nat → Int32) (t_holders_tree : Nat → Int64) (t_holders_limit : Nat → Int32) (t_holders_above : Nat → Int64) (t_holders_size : Nat → Int32) (t_imageKept : Int32) (t_desk_genus : Int32) (t_desk_size : Int32) (t_desk_limit : Int32) (t_desk_tree : Int64) (t_numbers_round : Int32) (t_numbers_size : Int32) (t_numbers_sum : Int32) (t_numbers_gathered : Int64) (a_t_desk_powers : Nat → Int32) (a_t_numbers_keys : Nat → Int64) (a_t_numbers_aboves : Nat → Int64) (p0 : Int32) (p1 : Int32) (r0 : Int32) (w0 : Nat → Int64) (w1 : Nat → Int64) (w2 : Int32) (w3 : Int32) (w4 : Int64) (w5 : Nat → Int64) (w6 : Nat → Int32) (w7 : Nat → Int32) (w8 : Nat → Int64) (hF : F_X8_hold t_holders_sort t_holders_tree t_holders_limit t_holders_above t_desk_genus t_desk_size t_desk_limit t_desk_tree t_numbers_size t_numbers_sum t_numbers_gathered a_t_desk_powers a_t_numbers_keys a_t_numbers_aboves p0 p1 = some (r0, w0, w1, w2, w3, w4, w5, w6, w7, w8)) : Met l yX8_hold wsX8_hold ({ frames := 26, cells := 0, slots := 0, locals := 745 }) (k_pre G (k_T cI cJ cD cH) [(h_t, .inr (7, [.ref h_t_desk, .ref h_t_imageDesk, .ref h_t_deeds, .ref h_t_numbers, .ref h_t_tape, .ref h_t_reader, .ref h_t_speller, .ref h_t_holders, .int t_imageKept])), (h_t_holders, .inl (cH, 6, .inr (.inr (.inr (.inr (fun i => some (d_t_holders i))))))), ((d_t_holders 0), .inr (2, [.int (t_holders_sort 0), .long (t_holders_tree 0), .int (t_holders_limit 0), .ref (q_t_holders 0), .long (t_holders_above 0), .int (t_holders_size 0)])), ((q_t_holders 0), .inl (cI, 20, .inl (a_t_holders 0))), ((d_t_holders 1), .inr (2, [.int (t_holders_sort 1), .long (t_holders_tree 1), .int (t_holders_limit 1), .ref (q_t_holders 1), .long (t_holders_above 1), .int (t_holders_size 1)])), ((q_t_holders 1), .inl (cI, 20, .inl (a_t_holders 1))), ((d_t_holders 2), .inr (2, [.int (t_holders_sort 2), .long (t_holders_tree 2), .int (t_holders_limit 2), .ref (q_t_holders 2), .long (t_holders_above 2), .int (t_holders_size 2)])), ((q_t_holders 2), .inl (cI, 20, .inl (a_t_holders 2))), ((d_t_holders 3), .inr (2, [.int (t_holders_sort 3), .long (t_holders_tree 3), .int (t_holders_limit 3), .ref (q_t_holders 3), .long (t_holders_above 3), .int (t_holders_size 3)])), ((q_t_holders 3), .inl (cI, 20, .inl (a_t_holders 3))), ((d_t_holders 4), .inr (2, [.int (t_holders_sort 4), .long (t_holders_tree 4), .int (t_holders_limit 4), .ref (q_t_holders 4), .long (t_holders_above 4), .int (t_holders_size 4)])), ((q_t_holders 4), .inl (cI, 20, .inl (a_t_holders 4))), ((d_t_holders 5), .inr (2, [.int (t_holders_sort 5), .long (t_holders_tree 5), .int (t_holders_limit 5), .ref (q_t_holders 5), .long (t_holders_above 5), .int (t_holders_size 5)])), ((q_t_holders 5), .inl (cI, 20, .inl (a_t_holders 5))), (h_t_desk, .inr (1, [.int t_desk_genus, .int t_desk_size, .ref h_t_desk_powers, .int t_desk_limit, .long t_desk_tree])), (h_t_numbers, .inr (3, [.ref h_t_numbers_keys, .ref h_t_numbers_aboves, .ref h_t_numbers_rounds, .int t_numbers_round, .int t_numbers_size, .int t_numbers_sum, .long t_numbers_gathered])), (h_t_desk_powers, .inl (cI, 8, .inl a_t_desk_powers)), (h_t_numbers_keys, .inl (cJ, 1024, .inr (.inl a_t_numbers_keys))), (h_t_numbers_aboves, .inl (cJ, 1024, .inr (.inl a_t_numbers_aboves)))] sz [.ref h_t, .int p0, .int p1]) (va_Qi (fun r (_ : Unit) => r = r0 ∧ True) (fun _ t => va_P G vwCl [(h_t, .inr (7, [.ref h_t_desk, .ref h_t_imageDesk, .ref h_t_deeds, .ref h_t_numbers, .ref h_t_tape, .ref h_t_reader, .ref h_t_speller, .ref h_t_holders, .int t_imageKept])), (h_t_holders, .inl (cH, 6, .inr (.inr (.inr (.inr (fun i => some (d_t_holders i))))))), ((d_t_holders 0), .inr (2, [.int (w7 0), .long (w8 0), .int (w6 0), .ref (q_t_holders 0), .long (w5 0), .int (t_holders_size 0)])), ((q_t_holders 0), .inl (cI, 20, .inl (a_t_holders 0))), ((d_t_holders 1), .inr (2, [.int (w7 1), .long (w8 1), .int (w6 1), .ref (q_t_holders 1), .long (w5 1), .int (t_holders_size 1)])), ((q_t_holders 1), .inl (cI, 20, .inl (a_t_holders 1))), ((d_t_holders 2), .inr (2, [.int (w7 2), .long (w8 2), .int (w6 2), .ref (q_t_holders 2), .long (w5 2), .int (t_holders_size 2)])), ((q_t_holders 2), .inl (cI, 20, .inl (a_t_holders 2))), ((d_t_holders 3), .inr (2, [.int (w7 3), .long (w8 3), .int (w6 3), .ref (q_t_holders 3), .long (w5 3), .int (t_holders_size 3)])), ((q_t_holders 3), .inl (cI, 20, .inl (a_t_holders 3))), ((d_t_holders 4), .inr (2, [.int (w7 4), .long (w8 4), .int (w6 4), .ref (q_t_holders 4), .long (w5 4), .int (t_holders_size 4)])), ((q_t_holders 4), .inl (cI, 20, .inl (a_t_holders 4))), ((d_t_holders 5), .inr (2, [.int (w7 5), .long (w8 5), .int (w6 5), .ref (q_t_holders 5), .long (w5 5), .int (t_holders_size 5)])), ((q_t_holders 5), .inl (cI, 20, .inl (a_t_holders 5))), (h_t_desk, .inr (1, [.int t_desk_genus, .int t_desk_size, .ref h_t_desk_powers, .int t_desk_limit, .long t_desk_tree])), (h_t_numbers, .inr (3, [.ref h_t_numbers_keys, .ref h_t_numbers_aboves, .ref h_t_numbers_rounds, .int t_numbers_round, .int w2, .int w3, .long w4])), (h_t_desk_powers, .inl (cI, 8, .inl a_t_desk_powers)), (h_t_numbers_keys, .inl (cJ, 1024, .inr (.inl w0))), (h_t_numbers_aboves, .inl (cJ, 1024, .inr (.inl w1)))] t.heap) (va_A [(h_t, .inr (7, [.ref h_t_desk, .ref h_t_imageDesk, .ref h_t_deeds, .ref h_t_numbers, .ref h_t_tape, .ref h_t_reader, .ref h_t_speller, .ref h_t_holders, .int t_imageKept])), (h_t_holders, .inl (cH, 6, .inr (.inr (.inr (.inr (fun i => some (d_t_holders i))))))), ((d_t_holders 0), .inr (2, [.int (t_holders_sort 0), .long (t_holders_tree 0), .int (t_holders_limit 0), .ref (q_t_holders 0), .long (t_holders_above 0), .int (t_holders_size 0)])), ((q_t_holders 0), .inl (cI, 20, .inl (a_t_holders 0))), ((d_t_holders 1), .inr (2, [.int (t_holders_sort 1), .long (t_holders_tree 1), .int (t_holders_limit 1), .ref (q_t_holders 1), .long (t_holders_above 1), .int (t_holders_size 1)])), ((q_t_holders 1), .inl (cI, 20, .inl (a_t_holders 1))), ((d_t_holders 2), .inr (2, [.int (t_holders_sort 2), .long (t_holders_tree 2), .int (t_holders_limit 2), .ref (q_t_holders 2), .long (t_holders_above 2), .int (t_holders_size 2)])), ((q_t_holders 2), .inl (cI, 20, .inl (a_t_holders 2))), ((d_t_holders 3), .inr (2, [.int (t_holders_sort 3), .long (t_holders_tree 3), .int (t_holders_limit 3), .ref (q_t_holders 3), .long (t_holders_above 3), .int (t_holders_size 3)])), ((q_t_holders 3), .inl (cI, 20, .inl (a_t_holders 3))), ((d_t_holders 4), .inr (2, [.int (t_holders_sort 4), .long (t_holders_tree 4), .int (t_holders_limit 4), .ref (q_t_holders 4), .long (t_holders_above 4), .int (t_holders_size 4)])), ((q_t_holders 4), .inl (cI, 20, .inl (a_t_holders 4))), ((d_t_holders 5), .inr (2, [.int (t_holders_sort 5), .long (t_holders_tree 5), .int (t_holders_limit 5), .ref (q_t_holders 5), .long (t_holders_above 5), .int (t_holders_size 5)])), ((q_t_holders 5), .inl (cI, 20, .inl (a_t_holders 5))), (h_t_desk, .inr (1, [.int t_desk_genus, .int t_desk_size, .ref h_t_desk_powers, .int t_desk_limit, .long t_desk_tree])), (h_t_numbers, .inr (3, [.ref h_t_numbers_keys, .ref h_t_numbers_aboves, .ref h_t_numbers_rounds, .int t_numbers_round, .int t_numbers_size, .int t_numbers_sum, .long t_numbers_gathered])), (h_t_desk_powers, .inl (cI, 8, .inl a_t_desk_powers)), (h_t_numbers_keys, .inl (cJ, 1024, .inr (.inl a_t_numbers_keys))), (h_t_numbers_aboves, .inl (cJ, 1024, .inr (.inl a_t_numbers_aboves)))] sz)) 0 0 (va_A [(h_t, .inr (7, [.ref h_t_desk, .ref h_t_imageDesk, .ref h_t_deeds, .ref h_t_numbers, .ref h_t_tape, .ref h_t_reader, .ref h_t_speller, .ref h_t_holders, .int t_imageKept])), (h_t_holders, .inl (cH, 6, .inr (.inr (.inr (.inr (fun i => some (d_t_holders i))))))), ((d_t_holders 0), .inr (2, [.int (t_holders_sort 0), .long (t_holders_tree 0), .int (t_holders_limit 0), .ref (q_t_holders 0), .long (t_holders_above 0), .int (t_holders_size 0)])), ((q_t_holders 0), .inl (cI, 20, .inl (a_t_holders 0))), ((d_t_holders 1), .inr (2, [.int (t_holders_sort 1), .long (t_holders_tree 1), .int (t_holders_limit 1), .ref (q_t_holders 1), .long (t_holders_above 1), .int (t_holders_size 1)])), ((q_t_holders 1), .inl (cI, 20, .inl (a_t_holders 1))), ((d_t_holders 2), .inr (2, [.int (t_holders_sort 2), .long (t_holders_tree 2), .int (t_holders_limit 2), .ref (q_t_holders 2), .long (t_holders_above 2), .int (t_holders_size 2)])), ((q_t_holders 2), .inl (cI, 20, .inl (a_t_holders 2))), ((d_t_holders 3), .inr (2, [.int (t_holders_sort 3), .long (t_holders_tree 3), .int (t_holders_limit 3), .ref (q_t_holders 3), .long (t_holders_above 3), .int (t_holders_size 3)])), ((q_t_holders 3), .inl (cI, 20, .inl (a_t_holders 3))), ((d_t_holders 4), .inr (2, [.int (t_holders_sort 4), .long (t_holders_tree 4), .int (t_holders_limit 4), .ref (q_t_holders 4), .long (t_holders_above 4), .int (t_holders_size 4)])), ((q_t_holders 4), .inl (cI, 20, .inl (a_t_holders 4))), ((d_t_holders 5), .inr (2, [.int (t_holders_sort 5), .long (t_holders_tree 5), .int (t_holders_limit 5), .ref (q_t_holders 5), .long (t_holders_above 5), .int (t_holders_size 5)])), ((q_t_holders 5), .inl (cI, 20, .inl (a_t_holders 5))), (h_t_desk, .inr (1, [.int t_desk_genus, .int t_desk_size, .ref h_t_desk_powers, .int t_desk_limit, .long t_desk_tree])), (h_t_numbers, .inr (3, [.ref h_t_numbers_keys, .ref h_t_numbers_aboves, .ref h_t_numbers_rounds, .int t_numbers_round, .int t_numbers_size, .int t_numbers_sum, .long t_numbers_gathered])), (h_t_desk_powers, .inl (cI, 8, .inl a_t_desk_powers)), (h_t_numbers_keys, .inl (cJ, 1024, .inr (.inl a_t_numbers_keys))), (h_t_numbers_aboves, .inl (cJ, 1024, .inr (.inl a_t_numbers_aboves)))] sz) := by
  refine Met.ofW (cc := cX8_hold) (maxL := 4) (ret := (some .int)) (by decide) rfl ?_
  intro p e s m args below meth c s₁ B hml hv
  obtain ⟨rfl, hsz, hP, hK, hD0⟩ := hv
  have hx := B.exec
  have hb := B.bytes
  have hr := B.returns
  have hts := atoms_spec (ws := wsX8_hold) B.pre
  have hta : ∀ w ∈ wA, w.before ([.ref h_t, .int p0, .int p1] : List Value).toArray s = true := hta_of hts
  have hown : s.vm.findClass RX8 = some m.cls := findClass_of_methodNamed B.named
  have hlocks := B.notSynchronized
  subst hsz
  have hD := hD0.self (sz := s.heap.size)
  generalize hAe : va_A [(h_t, .inr (7, [.ref h_t_desk, .ref h_t_imageDesk, .ref h_t_deeds, .ref h_t_numbers, .ref h_t_tape, .ref h_t_reader, .ref h_t_speller, .ref h_t_holders, .int t_imageKept])), (h_t_holders, .inl (cH, 6, .inr (.inr (.inr (.inr (fun i => some (d_t_holders i))))))), ((d_t_holders 0), .inr (2, [.int (t_holders_sort 0), .long (t_holders_tree 0), .int (t_holders_limit 0), .ref (q_t_holders 0), .long (t_holders_above 0), .int (t_holders_size 0)])), ((q_t_holders 0), .inl (cI, 20, .inl (a_t_holders 0))), ((d_t_holders 1), .inr (2, [.int (t_holders_sort 1), .long (t_holders_tree 1), .int (t_holders_limit 1), .ref (q_t_holders 1), .long (t_holders_above 1), .int (t_holders_size 1)])), ((q_t_holders 1), .inl (cI, 20, .inl (a_t_holders 1))), ((d_t_holders 2), .inr (2, [.int (t_holders_sort 2), .long (t_holders_tree 2), .int (t_holders_limit 2), .ref (q_t_holders 2), .long (t_holders_above 2), .int (t_holders_size 2)])), ((q_t_holders 2), .inl (cI, 20, .inl (a_t_holders 2))), ((d_t_holders 3), .inr (2, [.int (t_holders_sort 3), .long (t_holders_tree 3), .int (t_holders_limit 3), .ref (q_t_holders 3), .long (t_holders_above 3), .int (t_holders_size 3)])), ((q_t_holders 3), .inl (cI, 20, .inl (a_t_holders 3))), ((d_t_holders 4), .inr (2, [.int (t_holders_sort 4), .long (t_holders_tree 4), .int (t_holders_limit 4), .ref (q_t_holders 4), .long (t_holders_above 4), .int (t_holders_size 4)])), ((q_t_holders 4), .inl (cI, 20, .inl (a_t_holders 4))), ((d_t_holders 5), .inr (2, [.int (t_holders_sort 5), .long (t_holders_tree 5), .int (t_holders_limit 5), .ref (q_t_holders 5), .long (t_holders_above 5), .int (t_holders_size 5)])), ((q_t_holders 5), .inl (cI, 20, .inl (a_t_holders 5))), (h_t_desk, .inr (1, [.int t_desk_genus, .int t_desk_size, .ref h_t_desk_powers, .int t_desk_limit, .long t_desk_tree])), (h_t_numbers, .inr (3, [.ref h_t_numbers_keys, .ref h_t_numbers_aboves, .ref h_t_numbers_rounds, .int t_numbers_round, .int t_numbers_size, .int t_numbers_sum, .long t_numbers_gathered])), (h_t_desk_powers, .inl (cI, 8, .inl a_t_desk_powers)), (h_t_numbers_keys, .inl (cJ, 1024, .inr (.inl a_t_numbers_keys))), (h_t_numbers_aboves, .inl (cJ, 1024, .inr (.inl a_t_numbers_aboves)))] s.heap.size = A at hD ⊢
  have hA : ∀ q : Nat, s.heap.size ≤ q → A q := fun q h => by rw [← hAe]; exact Or.inr h
  have hS : va_S A s.heap s.heap [] := va_S.rf
  have hl := lv_entry ([.ref h_t, .int p0, .int p1]) (n := 4) (Nat.le_of_ble_eq_true rfl)
  rw [lg_entry_eq]
  generalize (lg_sl ([.ref h_t, .int p0, .int p1]) ++ List.replicate (4 - (lg_sl ([.ref h_t, .int p0, .int p1])).length) Slot.unset).toArray = ls at hl ⊢
  have hl : lv_has ls 4 [(0, .ref h_t), (1, .int p0), (2, .int p1)] := hl
  have hinX1 : ∀ w ∈ wsX10, w ∈ wsX8_hold := hin_of in_X1
  have hinX8 : ∀ w ∈ wsX80, w ∈ wsX8_hold := hin_of in_X8
  have h := hF
  unfold F_X8_hold at h
  refine lv_aload_n hx hb dX8_hold_0 rfl (lv_at hl 0 rfl) ?_
  refine lv_iload_n hx hb dX8_hold_1 rfl (lv_at hl 1 rfl) ?_
  obtain ⟨x1, hx1, h⟩ := bd_e h
  try dsimp only at h
  have hc1 := k_lt_X8_holderAt hx1
  by_cases hd1 : x1 = 6
  · subst hd1
    refine k_VqU (n := 1) (As := [.int p0]) (rest := []) hx hb hml hown hts (c_X8_holderAt l G cI cJ cD cH s.heap.size h_t h_t_holders h_t_desk h_t_imageDesk h_t_deeds h_t_numbers h_t_tape h_t_reader h_t_speller d_t_holders q_t_holders a_t_holders t_holders_sort t_holders_tree t_holders_limit t_holders_above t_holders_size t_imageKept p0 6 hx1) gX8_hold_X8_holderAt rfl rfl rfl (by decide +kernel) ⟨by first | exact Nat.le_of_ble_eq_true rfl | (simp only [headSpec]; omega), by first | exact Nat.le_of_ble_eq_true rfl | (simp only [headSpec]; omega)⟩ hK hP hD hS hA [0, 1, 2, 3, 4, 5, 6, 7, 8, 9, 10, 11, 12, 13] (by decide) rfl (ci := 7) rfl rfl rfl rfl rfl hl.1 (Nat.le_of_ble_eq_true rfl) dX8_hold_2 ⟨Nat.zero_le _, Nat.zero_le _⟩ (fun hp1 H locs hP hS => ?_)
    refine W.eq (g2 := F0 m 5 ls [.null]) rfl ?_
    have h := it_p h rfl
    refine lv_astore_nN (lv' := [(3, .null), (0, .ref h_t), (1, .int p0), (2, .int p1)]) hx hb dX8_hold_5 rfl hl (by decide) rfl (fun ls hl => ?_)
    refine lv_aload_nN hx hb dX8_hold_6 rfl (lv_at hl 0 rfl) ?_
    refine lv_ifnullN (tgt := 19) hx hb dX8_hold_7 (by decide) ?_
    refine lv_iconst (v := (-1 : Int32)) hx hb dX8_hold_19 (by decide) ?_
    have h9 := Option.some.inj h
    have e9 : (-1 : Int32) = r0 := congrArg (fun z9 => z9.1) h9
    rw [← e9]
    have e9 : a_t_numbers_keys = w0 := congrArg (fun z9 => z9.2.1) h9
    rw [← e9]
    have e9 : a_t_numbers_aboves = w1 := congrArg (fun z9 => z9.2.2.1) h9
    rw [← e9]
    have e9 : t_numbers_size = w2 := congrArg (fun z9 => z9.2.2.2.1) h9
    rw [← e9]
    have e9 : t_numbers_sum = w3 := congrArg (fun z9 => z9.2.2.2.2.1) h9
    rw [← e9]
    have e9 : t_numbers_gathered = w4 := congrArg (fun z9 => z9.2.2.2.2.2.1) h9
    rw [← e9]
    have e9 : t_holders_above = w5 := congrArg (fun z9 => z9.2.2.2.2.2.2.1) h9
    rw [← e9]
    have e9 : t_holders_limit = w6 := congrArg (fun z9 => z9.2.2.2.2.2.2.2.1) h9
    rw [← e9]
    have e9 : t_holders_sort = w7 := congrArg (fun z9 => z9.2.2.2.2.2.2.2.2.1) h9
    rw [← e9]
    have e9 : t_holders_tree = w8 := congrArg (fun z9 => z9.2.2.2.2.2.2.2.2.2) h9
    rw [← e9]
    exact k_iret hx hb hr hlocks hP hS rfl dX8_hold_20
  have hb1 : x1 < 6 := by omega
  refine k_VqU (n := 1) (As := [.int p0]) (rest := []) hx hb hml hown hts (c_X8_holderAt l G cI cJ cD cH s.heap.size h_t h_t_holders h_t_desk h_t_imageDesk h_t_deeds h_t_numbers h_t_tape h_t_reader h_t_speller d_t_holders q_t_holders a_t_holders t_holders_sort t_holders_tree t_holders_limit t_holders_above t_holders_size t_imageKept p0 x1 hx1) gX8_hold_X8_holderAt rfl rfl rfl (by decide +kernel) ⟨by first | exact Nat.le_of_ble_eq_true rfl | (simp only [headSpec]; omega), by first | exact Nat.le_of_ble_eq_true rfl | (simp only [headSpec]; omega)⟩ hK hP hD hS hA [0, 1, 2, 3, 4, 5, 6, 7, 8, 9, 10, 11, 12, 13] (by decide) rfl (ci := 7) rfl rfl rfl rfl rfl hl.1 (Nat.le_of_ble_eq_true rfl) dX8_hold_2 ⟨Nat.zero_le _, Nat.zero_le _⟩ (fun hp1 H locs hP hS => ?_)
  refine W.eq (g2 := F0 m 5 ls [.ref (d_t_holders x1)]) (by rw [if_neg hd1]; rfl) ?_
  have h := it_n h hd1
  refine lv_astore_n (lv' := [(3, .ref (d_t_holders x1)), (0, .ref h_t), (1, .int p0), (2, .int p1)]) hx hb dX8_hold_5 rfl hl (by decide) rfl (fun ls hl => ?_)
  refine lv_aload_n hx hb dX8_hold_6 rfl (lv_at hl 0 rfl) ?_
  refine lv_ifnull hx hb dX8_hold_7 ?_
  refine lv_iload_n hx hb dX8_hold_10 rfl (lv_at hl 3 rfl) ?_
  refine lv_if_lt (tgt := 19) hx hb dX8_hold_11 (by decide) (fun c2 => ?_) (fun c2 => ?_)
  · have h := it_p h c2
    refine lv_iconst (v := (-1 : Int32)) hx hb dX8_hold_19 (by decide) ?_
    have h9 := Option.some.inj h
    have e9 : (-1 : Int32) = r0 := congrArg (fun z9 => z9.1) h9
    rw [← e9]
    have e9 : a_t_numbers_keys = w0 := congrArg (fun z9 => z9.2.1) h9
    rw [← e9]
    have e9 : a_t_numbers_aboves = w1 := congrArg (fun z9 => z9.2.2.1) h9
    rw [← e9]
    have e9 : t_numbers_size = w2 := congrArg (fun z9 => z9.2.2.2.1) h9
    rw [← e9]
    have e9 : t_numbers_sum = w3 := congrArg (fun z9 => z9.2.2.2.2.1) h9
    rw [← e9]
    have e9 : t_numbers_gathered = w4 := congrArg (fun z9 => z9.2.2.2.2.2.1) h9
    rw [← e9]
    have e9 : t_holders_above = w5 := congrArg (fun z9 => z9.2.2.2.2.2.2.1) h9
    rw [← e9]
    have e9 : t_holders_limit = w6 := congrArg (fun z9 => z9.2.2.2.2.2.2.2.1) h9
    rw [← e9]
    have e9 : t_holders_sort = w7 := congrArg (fun z9 => z9.2.2.2.2.2.2.2.2.1) h9
    rw [← e9]
    have e9 : t_holders_tree = w8 := congrArg (fun z9 => z9.2.2.2.2.2.2.2.2.2) h9
    rw [← e9]
    exact k_iret hx hb hr hlocks hP hS rfl dX8_hold_20
  have h := it_n h c2
  refine lv_iload_n hx hb dX8_hold_14 rfl (lv_at hl 3 rfl) ?_
  refine lv_iconst (v := (1 : Int32)) hx hb dX8_hold_15 (by decide) ?_
  refine lv_icmp_le (tgt := 21) hx hb dX8_hold_16 (by decide) (fun c3 => ?_) (fun c3 => ?_)
  rotate_left
  · have h := it_n h c3
    refine lv_iconst (v := (-1 : Int32)) hx hb dX8_hold_19 (by decide) ?_
    have h9 := Option.some.inj h
    have e9 : (-1 : Int32) = r0 := congrArg (fun z9 => z9.1) h9
    rw [← e9]
    have e9 : a_t_numbers_keys = w0 := congrArg (fun z9 => z9.2.1) h9
    rw [← e9]
    have e9 : a_t_numbers_aboves = w1 := congrArg (fun z9 => z9.2.2.1) h9
    rw [← e9]
    have e9 : t_numbers_size = w2 := congrArg (fun z9 => z9.2.2.2.1) h9
    rw [← e9]
    have e9 : t_numbers_sum = w3 := congrArg (fun z9 => z9.2.2.2.2.1) h9
    rw [← e9]
    have e9 : t_numbers_gathered = w4 := congrArg (fun z9 => z9.2.2.2.2.2.1) h9
    rw [← e9]
    have e9 : t_holders_above = w5 := congrArg (fun z9 => z9.2.2.2.2.2.2.1) h9
    rw [← e9]
    have e9 : t_holders_limit = w6 := congrArg (fun z9 => z9.2.2.2.2.2.2.2.1) h9
    rw [← e9]
    have e9 : t_holders_sort = w7 := congrArg (fun z9 => z9.2.2.2.2.2.2.2.2.1) h9
    rw [← e9]
    have e9 : t_holders_tree = w8 := congrArg (fun z9 => z9.2.2.2.2.2.2.2.2.2) h9
    rw [← e9]
    exact k_iret hx hb hr hlocks hP hS rfl dX8_hold_20
  have h := it_p h c3
  refine lv_iload_n hx hb dX8_hold_21 rfl (lv_at hl 3 rfl) ?_
  refine lv_if_ne (tgt := 42) hx hb dX8_hold_22 (by decide) (fun c4 => ?_) (fun c4 => ?_)
  rotate_left
  · have h := it_p h c4
    refine lv_aload_n hx hb dX8_hold_25 rfl (lv_at hl 0 rfl) ?_
    refine lv_aload_n hx hb dX8_hold_26 rfl (lv_at hl 1 rfl) ?_
    refine lv_iconst (v := (0 : Int32)) hx hb dX8_hold_27 (by decide) ?_
    obtain ⟨x7, hx7, h⟩ := bd_e h
    try dsimp only at h
    refine k_VlM (n := 1) (As := [.int (0 : Int32)]) (rest := [.ref (d_t_holders x1)]) hx hb hml hown hts (c_X8_number l G cI cJ cD cH H.size h_t h_t_numbers h_t_desk h_t_desk_powers h_t_numbers_keys h_t_numbers_aboves h_t_imageDesk h_t_deeds h_t_tape h_t_reader h_t_speller h_t_holders h_t_numbers_rounds t_imageKept t_numbers_round t_numbers_size t_numbers_sum t_numbers_gathered t_desk_genus t_desk_size t_desk_limit t_desk_tree a_t_desk_powers a_t_numbers_keys a_t_numbers_aboves (0 : Int32) (x7.1) (x7.2.1) (x7.2.2.1) (x7.2.2.2.1) (x7.2.2.2.2.1) (x7.2.2.2.2.2) hx7) gX8_hold_X8_number rfl rfl rfl (by decide +kernel) ⟨by first | exact Nat.le_of_ble_eq_true rfl | (simp only [headSpec]; omega), by first | exact Nat.le_of_ble_eq_true rfl | (simp only [headSpec]; omega)⟩ hK hP hD hS hA [0, 15, 14, 16, 17, 18] (by decide) rfl rfl (ci := 7) rfl rfl rfl rfl rfl hl.1 (Nat.le_of_ble_eq_true rfl) dX8_hold_28 ⟨Nat.zero_le _, Nat.zero_le _⟩ [(h_t, .inr (7, [.ref h_t_desk, .ref h_t_imageDesk, .ref h_t_deeds, .ref h_t_numbers, .ref h_t_tape, .ref h_t_reader, .ref h_t_speller, .ref h_t_holders, .int t_imageKept])), (h_t_holders, .inl (cH, 6, .inr (.inr (.inr (.inr (fun i => some (d_t_holders i))))))), ((d_t_holders 0), .inr (2, [.int (t_holders_sort 0), .long (t_holders_tree 0), .int (t_holders_limit 0), .ref (q_t_holders 0), .long (t_holders_above 0), .int (t_holders_size 0)])), ((q_t_holders 0), .inl (cI, 20, .inl (a_t_holders 0))), ((d_t_holders 1), .inr (2, [.int (t_holders_sort 1), .long (t_holders_tree 1), .int (t_holders_limit 1), .ref (q_t_holders 1), .long (t_holders_above 1), .int (t_holders_size 1)])), ((q_t_holders 1), .inl (cI, 20, .inl (a_t_holders 1))), ((d_t_holders 2), .inr (2, [.int (t_holders_sort 2), .long (t_holders_tree 2), .int (t_holders_limit 2), .ref (q_t_holders 2), .long (t_holders_above 2), .int (t_holders_size 2)])), ((q_t_holders 2), .inl (cI, 20, .inl (a_t_holders 2))), ((d_t_holders 3), .inr (2, [.int (t_holders_sort 3), .long (t_holders_tree 3), .int (t_holders_limit 3), .ref (q_t_holders 3), .long (t_holders_above 3), .int (t_holders_size 3)])), ((q_t_holders 3), .inl (cI, 20, .inl (a_t_holders 3))), ((d_t_holders 4), .inr (2, [.int (t_holders_sort 4), .long (t_holders_tree 4), .int (t_holders_limit 4), .ref (q_t_holders 4), .long (t_holders_above 4), .int (t_holders_size 4)])), ((q_t_holders 4), .inl (cI, 20, .inl (a_t_holders 4))), ((d_t_holders 5), .inr (2, [.int (t_holders_sort 5), .long (t_holders_tree 5), .int (t_holders_limit 5), .ref (q_t_holders 5), .long (t_holders_above 5), .int (t_holders_size 5)])), ((q_t_holders 5), .inl (cI, 20, .inl (a_t_holders 5))), (h_t_desk, .inr (1, [.int t_desk_genus, .int t_desk_size, .ref h_t_desk_powers, .int t_desk_limit, .long t_desk_tree])), (h_t_numbers, .inr (3, [.ref h_t_numbers_keys, .ref h_t_numbers_aboves, .ref h_t_numbers_rounds, .int t_numbers_round, .int (x7.2.2.2.1), .int (x7.2.2.2.2.1), .long (x7.2.2.2.2.2)])), (h_t_desk_powers, .inl (cI, 8, .inl a_t_desk_powers)), (h_t_numbers_keys, .inl (cJ, 1024, .inr (.inl (x7.2.1)))), (h_t_numbers_aboves, .inl (cJ, 1024, .inr (.inl (x7.2.2.1))))] [1, 0, 0, 0, 0, 0, 0, 0, 0, 0, 0, 0, 0, 0, 3, 2, 4, 5, 6] 6 (by decide +kernel) rfl rfl rfl (fun hp7 H locs hP hD hS => ?_)
    obtain ⟨x8, hx8, h⟩ := bd_e h
    try dsimp only at h
    refine k_VvR (n := 1) (As := [.long (x7.1)]) (rest := []) hx hb hml hown hts (c_X2_holdNumber l G cI cJ cD cH H.size (d_t_holders x1) (q_t_holders x1) (t_holders_sort x1) (t_holders_tree x1) (t_holders_limit x1) (t_holders_above x1) (t_holders_size x1) (x7.1) (x8.1) (x8.2) hx8) gX8_hold_X2_holdNumber rfl rfl rfl (by decide +kernel) ⟨by first | exact Nat.le_of_ble_eq_true rfl | (simp only [headSpec]; omega), by first | exact Nat.le_of_ble_eq_true rfl | (simp only [headSpec]; omega)⟩ hK hP hD hS hA [(2 + 2 * x1)] (by obtain rfl | rfl | rfl | rfl | rfl | rfl := k_lt6 hb1 <;> decide) (by obtain rfl | rfl | rfl | rfl | rfl | rfl := k_lt6 hb1 <;> rfl) rfl (ci := 2) rfl rfl rfl rfl rfl hl.1 (Nat.le_of_ble_eq_true rfl) dX8_hold_31 ⟨Nat.zero_le _, Nat.zero_le _⟩ [(h_t, .inr (7, [.ref h_t_desk, .ref h_t_imageDesk, .ref h_t_deeds, .ref h_t_numbers, .ref h_t_tape, .ref h_t_reader, .ref h_t_speller, .ref h_t_holders, .int t_imageKept])), (h_t_holders, .inl (cH, 6, .inr (.inr (.inr (.inr (fun i => some (d_t_holders i))))))), ((d_t_holders 0), .inr (2, [.int ((va_up t_holders_sort x1 (x8.1)) 0), .long (t_holders_tree 0), .int (t_holders_limit 0), .ref (q_t_holders 0), .long ((va_up t_holders_above x1 (x8.2)) 0), .int (t_holders_size 0)])), ((q_t_holders 0), .inl (cI, 20, .inl (a_t_holders 0))), ((d_t_holders 1), .inr (2, [.int ((va_up t_holders_sort x1 (x8.1)) 1), .long (t_holders_tree 1), .int (t_holders_limit 1), .ref (q_t_holders 1), .long ((va_up t_holders_above x1 (x8.2)) 1), .int (t_holders_size 1)])), ((q_t_holders 1), .inl (cI, 20, .inl (a_t_holders 1))), ((d_t_holders 2), .inr (2, [.int ((va_up t_holders_sort x1 (x8.1)) 2), .long (t_holders_tree 2), .int (t_holders_limit 2), .ref (q_t_holders 2), .long ((va_up t_holders_above x1 (x8.2)) 2), .int (t_holders_size 2)])), ((q_t_holders 2), .inl (cI, 20, .inl (a_t_holders 2))), ((d_t_holders 3), .inr (2, [.int ((va_up t_holders_sort x1 (x8.1)) 3), .long (t_holders_tree 3), .int (t_holders_limit 3), .ref (q_t_holders 3), .long ((va_up t_holders_above x1 (x8.2)) 3), .int (t_holders_size 3)])), ((q_t_holders 3), .inl (cI, 20, .inl (a_t_holders 3))), ((d_t_holders 4), .inr (2, [.int ((va_up t_holders_sort x1 (x8.1)) 4), .long (t_holders_tree 4), .int (t_holders_limit 4), .ref (q_t_holders 4), .long ((va_up t_holders_above x1 (x8.2)) 4), .int (t_holders_size 4)])), ((q_t_holders 4), .inl (cI, 20, .inl (a_t_holders 4))), ((d_t_holders 5), .inr (2, [.int ((va_up t_holders_sort x1 (x8.1)) 5), .long (t_holders_tree 5), .int (t_holders_limit 5), .ref (q_t_holders 5), .long ((va_up t_holders_above x1 (x8.2)) 5), .int (t_holders_size 5)])), ((q_t_holders 5), .inl (cI, 20, .inl (a_t_holders 5))), (h_t_desk, .inr (1, [.int t_desk_genus, .int t_desk_size, .ref h_t_desk_powers, .int t_desk_limit, .long t_desk_tree])), (h_t_numbers, .inr (3, [.ref h_t_numbers_keys, .ref h_t_numbers_aboves, .ref h_t_numbers_rounds, .int t_numbers_round, .int (x7.2.2.2.1), .int (x7.2.2.2.2.1), .long (x7.2.2.2.2.2)])), (h_t_desk_powers, .inl (cI, 8, .inl a_t_desk_powers)), (h_t_numbers_keys, .inl (cJ, 1024, .inr (.inl (x7.2.1)))), (h_t_numbers_aboves, .inl (cJ, 1024, .inr (.inl (x7.2.2.1))))] (by obtain rfl | rfl | rfl | rfl | rfl | rfl := k_lt6 hb1 <;> rfl) (by obtain rfl | rfl | rfl | rfl | rfl | rfl := k_lt6 hb1 <;> rfl) (fun hp8 H locs hP hD hS => ?_)
    refine lv_aload_n hx hb dX8_hold_34 rfl (lv_at hl 1 rfl) ?_
    refine va_get (D := G) (ci := 7) (v := .ref h_t_desk) (C := RX8) (T := TX8) (N := 9) hx hb hts hinX8 hown hK hP 0 rfl rfl 0 (by decide) (hta _ mw_358) (fun _ h9 => h9) rfl dX8_hold_35 ?_
    refine va_get (D := G) (ci := 1) (v := .int t_desk_size) (C := RX1) (T := TX1) (N := 5) hx hb hts hinX1 hown hK hP 14 rfl rfl 1 (by decide) (hta _ mw_394) (fun _ h9 => h9) rfl dX8_hold_38 ?_
    have h9 := Option.some.inj h
    have e9 : t_desk_size = r0 := congrArg (fun z9 => z9.1) h9
    rw [← e9]
    have e9 : (x7.2.1) = w0 := congrArg (fun z9 => z9.2.1) h9
    rw [← e9]
    have e9 : (x7.2.2.1) = w1 := congrArg (fun z9 => z9.2.2.1) h9
    rw [← e9]
    have e9 : (x7.2.2.2.1) = w2 := congrArg (fun z9 => z9.2.2.2.1) h9
    rw [← e9]
    have e9 : (x7.2.2.2.2.1) = w3 := congrArg (fun z9 => z9.2.2.2.2.1) h9
    rw [← e9]
    have e9 : (x7.2.2.2.2.2) = w4 := congrArg (fun z9 => z9.2.2.2.2.2.1) h9
    rw [← e9]
    have e9 : (va_up t_holders_above x1 (x8.2)) = w5 := congrArg (fun z9 => z9.2.2.2.2.2.2.1) h9
    rw [← e9]
    have e9 : t_holders_limit = w6 := congrArg (fun z9 => z9.2.2.2.2.2.2.2.1) h9
    rw [← e9]
    have e9 : (va_up t_holders_sort x1 (x8.1)) = w7 := congrArg (fun z9 => z9.2.2.2.2.2.2.2.2.1) h9
    rw [← e9]
    have e9 : t_holders_tree = w8 := congrArg (fun z9 => z9.2.2.2.2.2.2.2.2.2) h9
    rw [← e9]
    exact k_iret hx hb hr hlocks hP hS rfl dX8_hold_41
  have h := it_n h c4
  refine lv_aload_n hx hb dX8_hold_42 rfl (lv_at hl 0 rfl) ?_
  refine lv_aload_n hx hb dX8_hold_43 rfl (lv_at hl 1 rfl) ?_
  refine va_get (D := G) (ci := 7) (v := .ref h_t_desk) (C := RX8) (T := TX8) (N := 9) hx hb hts hinX8 hown hK hP 0 rfl rfl 0 (by decide) (hta _ mw_358) (fun _ h9 => h9) rfl dX8_hold_44 ?_
  refine va_get (D := G) (ci := 1) (v := .long t_desk_tree) (C := RX1) (T := TX1) (N := 5) hx hb hts hinX1 hown hK hP 14 rfl rfl 4 (by decide) (hta _ mw_480) (fun _ h9 => h9) rfl dX8_hold_47 ?_
  refine lv_aload_n hx hb dX8_hold_50 rfl (lv_at hl 1 rfl) ?_
  refine va_get (D := G) (ci := 7) (v := .ref h_t_desk) (C := RX8) (T := TX8) (N := 9) hx hb hts hinX8 hown hK hP 0 rfl rfl 0 (by decide) (hta _ mw_358) (fun _ h9 => h9) rfl dX8_hold_51 ?_
  refine va_get (D := G) (ci := 1) (v := .int t_desk_limit) (C := RX1) (T := TX1) (N := 5) hx hb hts hinX1 hown hK hP 14 rfl rfl 3 (by decide) (hta _ mw_479) (fun _ h9 => h9) rfl dX8_hold_54 ?_
  obtain ⟨x5, hx5, h⟩ := bd_e h
  try dsimp only at h
  refine k_VvR (n := 2) (As := [.long t_desk_tree, .int t_desk_limit]) (rest := []) hx hb hml hown hts (c_X2_holdTree l G cI cJ cD cH H.size (d_t_holders x1) (q_t_holders x1) (t_holders_sort x1) (t_holders_tree x1) (t_holders_limit x1) (t_holders_above x1) (t_holders_size x1) t_desk_tree t_desk_limit (x5.1) (x5.2.1) (x5.2.2) hx5) gX8_hold_X2_holdTree rfl rfl rfl (by decide +kernel) ⟨by first | exact Nat.le_of_ble_eq_true rfl | (simp only [headSpec]; omega), by first | exact Nat.le_of_ble_eq_true rfl | (simp only [headSpec]; omega)⟩ hK hP hD hS hA [(2 + 2 * x1)] (by obtain rfl | rfl | rfl | rfl | rfl | rfl := k_lt6 hb1 <;> decide) (by obtain rfl | rfl | rfl | rfl | rfl | rfl := k_lt6 hb1 <;> rfl) rfl (ci := 2) rfl rfl rfl rfl rfl hl.1 (Nat.le_of_ble_eq_true rfl) dX8_hold_57 ⟨Nat.zero_le _, Nat.zero_le _⟩ [(h_t, .inr (7, [.ref h_t_desk, .ref h_t_imageDesk, .ref h_t_deeds, .ref h_t_numbers, .ref h_t_tape, .ref h_t_reader, .ref h_t_speller, .ref h_t_holders, .int t_imageKept])), (h_t_holders, .inl (cH, 6, .inr (.inr (.inr (.inr (fun i => some (d_t_holders i))))))), ((d_t_holders 0), .inr (2, [.int ((va_up t_holders_sort x1 (x5.1)) 0), .long ((va_up t_holders_tree x1 (x5.2.1)) 0), .int ((va_up t_holders_limit x1 (x5.2.2)) 0), .ref (q_t_holders 0), .long (t_holders_above 0), .int (t_holders_size 0)])), ((q_t_holders 0), .inl (cI, 20, .inl (a_t_holders 0))), ((d_t_holders 1), .inr (2, [.int ((va_up t_holders_sort x1 (x5.1)) 1), .long ((va_up t_holders_tree x1 (x5.2.1)) 1), .int ((va_up t_holders_limit x1 (x5.2.2)) 1), .ref (q_t_holders 1), .long (t_holders_above 1), .int (t_holders_size 1)])), ((q_t_holders 1), .inl (cI, 20, .inl (a_t_holders 1))), ((d_t_holders 2), .inr (2, [.int ((va_up t_holders_sort x1 (x5.1)) 2), .long ((va_up t_holders_tree x1 (x5.2.1)) 2), .int ((va_up t_holders_limit x1 (x5.2.2)) 2), .ref (q_t_holders 2), .long (t_holders_above 2), .int (t_holders_size 2)])), ((q_t_holders 2), .inl (cI, 20, .inl (a_t_holders 2))), ((d_t_holders 3), .inr (2, [.int ((va_up t_holders_sort x1 (x5.1)) 3), .long ((va_up t_holders_tree x1 (x5.2.1)) 3), .int ((va_up t_holders_limit x1 (x5.2.2)) 3), .ref (q_t_holders 3), .long (t_holders_above 3), .int (t_holders_size 3)])), ((q_t_holders 3), .inl (cI, 20, .inl (a_t_holders 3))), ((d_t_holders 4), .inr (2, [.int ((va_up t_holders_sort x1 (x5.1)) 4), .long ((va_up t_holders_tree x1 (x5.2.1)) 4), .int ((va_up t_holders_limit x1 (x5.2.2)) 4), .ref (q_t_holders 4), .long (t_holders_above 4), .int (t_holders_size 4)])), ((q_t_holders 4), .inl (cI, 20, .inl (a_t_holders 4))), ((d_t_holders 5), .inr (2, [.int ((va_up t_holders_sort x1 (x5.1)) 5), .long ((va_up t_holders_tree x1 (x5.2.1)) 5), .int ((va_up t_holders_limit x1 (x5.2.2)) 5), .ref (q_t_holders 5), .long (t_holders_above 5), .int (t_holders_size 5)])), ((q_t_holders 5), .inl (cI, 20, .inl (a_t_holders 5))), (h_t_desk, .inr (1, [.int t_desk_genus, .int t_desk_size, .ref h_t_desk_powers, .int t_desk_limit, .long t_desk_tree])), (h_t_numbers, .inr (3, [.ref h_t_numbers_keys, .ref h_t_numbers_aboves, .ref h_t_numbers_rounds, .int t_numbers_round, .int t_numbers_size, .int t_numbers_sum, .long t_numbers_gathered])), (h_t_desk_powers, .inl (cI, 8, .inl a_t_desk_powers)), (h_t_numbers_keys, .inl (cJ, 1024, .inr (.inl a_t_numbers_keys))), (h_t_numbers_aboves, .inl (cJ, 1024, .inr (.inl a_t_numbers_aboves)))] (by obtain rfl | rfl | rfl | rfl | rfl | rfl := k_lt6 hb1 <;> rfl) (by obtain rfl | rfl | rfl | rfl | rfl | rfl := k_lt6 hb1 <;> rfl) (fun hp5 H locs hP hD hS => ?_)
  refine lv_aload_n hx hb dX8_hold_60 rfl (lv_at hl 1 rfl) ?_
  refine va_get (D := G) (ci := 7) (v := .ref h_t_desk) (C := RX8) (T := TX8) (N := 9) hx hb hts hinX8 hown hK hP 0 rfl rfl 0 (by decide) (hta _ mw_358) (fun _ h9 => h9) rfl dX8_hold_61 ?_
  refine va_get (D := G) (ci := 1) (v := .long t_desk_tree) (C := RX1) (T := TX1) (N := 5) hx hb hts hinX1 hown hK hP 14 rfl rfl 4 (by decide) (hta _ mw_480) (fun _ h9 => h9) rfl dX8_hold_64 ?_
  obtain ⟨x6, hx6, h⟩ := bd_e h
  try dsimp only at h
  refine k_SiU (n := 1) (As := [.long t_desk_tree]) (rest := []) hx hb hml hown hts (c_X6_sizeOf l G cI cJ cD cH H.size t_desk_tree x6 hx6) gX8_hold_X6_sizeOf rfl rfl rfl (by decide +kernel) ⟨by first | exact Nat.le_of_ble_eq_true rfl | (simp only [headSpec]; omega), by first | exact Nat.le_of_ble_eq_true rfl | (simp only [headSpec]; omega)⟩ hK hP hD hS hA [] (by decide) rfl rfl rfl hl.1 (Nat.le_of_ble_eq_true rfl) dX8_hold_67 ⟨Nat.zero_le _, Nat.zero_le _⟩ (fun hp6 H locs hP hS => ?_)
  have h9 := Option.some.inj h
  have e9 : x6 = r0 := congrArg (fun z9 => z9.1) h9
  rw [← e9]
  have e9 : a_t_numbers_keys = w0 := congrArg (fun z9 => z9.2.1) h9
  rw [← e9]
  have e9 : a_t_numbers_aboves = w1 := congrArg (fun z9 => z9.2.2.1) h9
  rw [← e9]
  have e9 : t_numbers_size = w2 := congrArg (fun z9 => z9.2.2.2.1) h9
  rw [← e9]
  have e9 : t_numbers_sum = w3 := congrArg (fun z9 => z9.2.2.2.2.1) h9
  rw [← e9]
  have e9 : t_numbers_gathered = w4 := congrArg (fun z9 => z9.2.2.2.2.2.1) h9
  rw [← e9]
  have e9 : t_holders_above = w5 := congrArg (fun z9 => z9.2.2.2.2.2.2.1) h9
  rw [← e9]
  have e9 : (va_up t_holders_limit x1 (x5.2.2)) = w6 := congrArg (fun z9 => z9.2.2.2.2.2.2.2.1) h9
  rw [← e9]
  have e9 : (va_up t_holders_sort x1 (x5.1)) = w7 := congrArg (fun z9 => z9.2.2.2.2.2.2.2.2.1) h9
  rw [← e9]
  have e9 : (va_up t_holders_tree x1 (x5.2.1)) = w8 := congrArg (fun z9 => z9.2.2.2.2.2.2.2.2.2) h9
  rw [← e9]
  exact k_iret hx hb hr hlocks hP hS rfl dX8_hold_70

/-! X8_lose -/
set_option maxHeartbeats 40000000 in
set_option maxRecDepth 100000 in
theorem c_X8_lose (l : Launch) (G : va_G) (cI cJ cD cH : ClassId) (sz : Nat) (h_t : Nat) (h_t_holders : Nat) (h_t_desk : Nat) (h_t_imageDesk : Nat) (h_t_deeds : Nat) (h_t_numbers : Nat) (h_t_tape : Nat) (h_t_reader : Nat) (h_t_speller : Nat) (d_t_holders : Nat → Nat) (q_t_holders : Nat → Nat) (a_t_holders : Nat → Nat → Int32) (t_holders_sort : Nat → Int32) (t_holders_tree : Nat → Int64) (t_holders_limit : Nat → Int32) (t_holders_above : Nat → Int64) (t_holders_size : Nat → Int32) (t_imageKept : Int32) (p0 : Int32) (r0 : Int32) (w0 : Nat → Int32) (hF : F_X8_lose t_holders_sort p0 = some (r0, w0)) : Met l yX8_lose wsX8_lose ({ frames := 1, cells := 0, slots := 0, locals := 21 }) (k_pre G (k_T cI cJ cD cH) [(h_t, .inr (7, [.ref h_t_desk, .ref h_t_imageDesk, .ref h_t_deeds, .ref h_t_numbers, .ref h_t_tape, .ref h_t_reader, .ref h_t_speller, .ref h_t_holders, .int t_imageKept])), (h_t_holders, .inl (cH, 6, .inr (.inr (.inr (.inr (fun i => some (d_t_holders i))))))), ((d_t_holders 0), .inr (2, [.int (t_holders_sort 0), .long (t_holders_tree 0), .int (t_holders_limit 0), .ref (q_t_holders 0), .long (t_holders_above 0), .int (t_holders_size 0)])), ((q_t_holders 0), .inl (cI, 20, .inl (a_t_holders 0))), ((d_t_holders 1), .inr (2, [.int (t_holders_sort 1), .long (t_holders_tree 1), .int (t_holders_limit 1), .ref (q_t_holders 1), .long (t_holders_above 1), .int (t_holders_size 1)])), ((q_t_holders 1), .inl (cI, 20, .inl (a_t_holders 1))), ((d_t_holders 2), .inr (2, [.int (t_holders_sort 2), .long (t_holders_tree 2), .int (t_holders_limit 2), .ref (q_t_holders 2), .long (t_holders_above 2), .int (t_holders_size 2)])), ((q_t_holders 2), .inl (cI, 20, .inl (a_t_holders 2))), ((d_t_holders 3), .inr (2, [.int (t_holders_sort 3), .long (t_holders_tree 3), .int (t_holders_limit 3), .ref (q_t_holders 3), .long (t_holders_above 3), .int (t_holders_size 3)])), ((q_t_holders 3), .inl (cI, 20, .inl (a_t_holders 3))), ((d_t_holders 4), .inr (2, [.int (t_holders_sort 4), .long (t_holders_tree 4), .int (t_holders_limit 4), .ref (q_t_holders 4), .long (t_holders_above 4), .int (t_holders_size 4)])), ((q_t_holders 4), .inl (cI, 20, .inl (a_t_holders 4))), ((d_t_holders 5), .inr (2, [.int (t_holders_sort 5), .long (t_holders_tree 5), .int (t_holders_limit 5), .ref (q_t_holders 5), .long (t_holders_above 5), .int (t_holders_size 5)])), ((q_t_holders 5), .inl (cI, 20, .inl (a_t_holders 5)))] sz [.ref h_t, .int p0]) (va_Qi (fun r (_ : Unit) => r = r0 ∧ True) (fun _ t => va_P G vwCl [(h_t, .inr (7, [.ref h_t_desk, .ref h_t_imageDesk, .ref h_t_deeds, .ref h_t_numbers, .ref h_t_tape, .ref h_t_reader, .ref h_t_speller, .ref h_t_holders, .int t_imageKept])), (h_t_holders, .inl (cH, 6, .inr (.inr (.inr (.inr (fun i => some (d_t_holders i))))))), ((d_t_holders 0), .inr (2, [.int (w0 0), .long (t_holders_tree 0), .int (t_holders_limit 0), .ref (q_t_holders 0), .long (t_holders_above 0), .int (t_holders_size 0)])), ((q_t_holders 0), .inl (cI, 20, .inl (a_t_holders 0))), ((d_t_holders 1), .inr (2, [.int (w0 1), .long (t_holders_tree 1), .int (t_holders_limit 1), .ref (q_t_holders 1), .long (t_holders_above 1), .int (t_holders_size 1)])), ((q_t_holders 1), .inl (cI, 20, .inl (a_t_holders 1))), ((d_t_holders 2), .inr (2, [.int (w0 2), .long (t_holders_tree 2), .int (t_holders_limit 2), .ref (q_t_holders 2), .long (t_holders_above 2), .int (t_holders_size 2)])), ((q_t_holders 2), .inl (cI, 20, .inl (a_t_holders 2))), ((d_t_holders 3), .inr (2, [.int (w0 3), .long (t_holders_tree 3), .int (t_holders_limit 3), .ref (q_t_holders 3), .long (t_holders_above 3), .int (t_holders_size 3)])), ((q_t_holders 3), .inl (cI, 20, .inl (a_t_holders 3))), ((d_t_holders 4), .inr (2, [.int (w0 4), .long (t_holders_tree 4), .int (t_holders_limit 4), .ref (q_t_holders 4), .long (t_holders_above 4), .int (t_holders_size 4)])), ((q_t_holders 4), .inl (cI, 20, .inl (a_t_holders 4))), ((d_t_holders 5), .inr (2, [.int (w0 5), .long (t_holders_tree 5), .int (t_holders_limit 5), .ref (q_t_holders 5), .long (t_holders_above 5), .int (t_holders_size 5)])), ((q_t_holders 5), .inl (cI, 20, .inl (a_t_holders 5)))] t.heap) (va_A [(h_t, .inr (7, [.ref h_t_desk, .ref h_t_imageDesk, .ref h_t_deeds, .ref h_t_numbers, .ref h_t_tape, .ref h_t_reader, .ref h_t_speller, .ref h_t_holders, .int t_imageKept])), (h_t_holders, .inl (cH, 6, .inr (.inr (.inr (.inr (fun i => some (d_t_holders i))))))), ((d_t_holders 0), .inr (2, [.int (t_holders_sort 0), .long (t_holders_tree 0), .int (t_holders_limit 0), .ref (q_t_holders 0), .long (t_holders_above 0), .int (t_holders_size 0)])), ((q_t_holders 0), .inl (cI, 20, .inl (a_t_holders 0))), ((d_t_holders 1), .inr (2, [.int (t_holders_sort 1), .long (t_holders_tree 1), .int (t_holders_limit 1), .ref (q_t_holders 1), .long (t_holders_above 1), .int (t_holders_size 1)])), ((q_t_holders 1), .inl (cI, 20, .inl (a_t_holders 1))), ((d_t_holders 2), .inr (2, [.int (t_holders_sort 2), .long (t_holders_tree 2), .int (t_holders_limit 2), .ref (q_t_holders 2), .long (t_holders_above 2), .int (t_holders_size 2)])), ((q_t_holders 2), .inl (cI, 20, .inl (a_t_holders 2))), ((d_t_holders 3), .inr (2, [.int (t_holders_sort 3), .long (t_holders_tree 3), .int (t_holders_limit 3), .ref (q_t_holders 3), .long (t_holders_above 3), .int (t_holders_size 3)])), ((q_t_holders 3), .inl (cI, 20, .inl (a_t_holders 3))), ((d_t_holders 4), .inr (2, [.int (t_holders_sort 4), .long (t_holders_tree 4), .int (t_holders_limit 4), .ref (q_t_holders 4), .long (t_holders_above 4), .int (t_holders_size 4)])), ((q_t_holders 4), .inl (cI, 20, .inl (a_t_holders 4))), ((d_t_holders 5), .inr (2, [.int (t_holders_sort 5), .long (t_holders_tree 5), .int (t_holders_limit 5), .ref (q_t_holders 5), .long (t_holders_above 5), .int (t_holders_size 5)])), ((q_t_holders 5), .inl (cI, 20, .inl (a_t_holders 5)))] sz)) 0 0 (va_A [(h_t, .inr (7, [.ref h_t_desk, .ref h_t_imageDesk, .ref h_t_deeds, .ref h_t_numbers, .ref h_t_tape, .ref h_t_reader, .ref h_t_speller, .ref h_t_holders, .int t_imageKept])), (h_t_holders, .inl (cH, 6, .inr (.inr (.inr (.inr (fun i => some (d_t_holders i))))))), ((d_t_holders 0), .inr (2, [.int (t_holders_sort 0), .long (t_holders_tree 0), .int (t_holders_limit 0), .ref (q_t_holders 0), .long (t_holders_above 0), .int (t_holders_size 0)])), ((q_t_holders 0), .inl (cI, 20, .inl (a_t_holders 0))), ((d_t_holders 1), .inr (2, [.int (t_holders_sort 1), .long (t_holders_tree 1), .int (t_holders_limit 1), .ref (q_t_holders 1), .long (t_holders_above 1), .int (t_holders_size 1)])), ((q_t_holders 1), .inl (cI, 20, .inl (a_t_holders 1))), ((d_t_holders 2), .inr (2, [.int (t_holders_sort 2), .long (t_holders_tree 2), .int (t_holders_limit 2), .ref (q_t_holders 2), .long (t_holders_above 2), .int (t_holders_size 2)])), ((q_t_holders 2), .inl (cI, 20, .inl (a_t_holders 2))), ((d_t_holders 3), .inr (2, [.int (t_holders_sort 3), .long (t_holders_tree 3), .int (t_holders_limit 3), .ref (q_t_holders 3), .long (t_holders_above 3), .int (t_holders_size 3)])), ((q_t_holders 3), .inl (cI, 20, .inl (a_t_holders 3))), ((d_t_holders 4), .inr (2, [.int (t_holders_sort 4), .long (t_holders_tree 4), .int (t_holders_limit 4), .ref (q_t_holders 4), .long (t_holders_above 4), .int (t_holders_size 4)])), ((q_t_holders 4), .inl (cI, 20, .inl (a_t_holders 4))), ((d_t_holders 5), .inr (2, [.int (t_holders_sort 5), .long (t_holders_tree 5), .int (t_holders_limit 5), .ref (q_t_holders 5), .long (t_holders_above 5), .int (t_holders_size 5)])), ((q_t_holders 5), .inl (cI, 20, .inl (a_t_holders 5)))] sz) := by
  refine Met.ofW (cc := cX8_lose) (maxL := 4) (ret := (some .int)) (by decide) rfl ?_
  intro p e s m args below meth c s₁ B hml hv
  obtain ⟨rfl, hsz, hP, hK, hD0⟩ := hv
  have hx := B.exec
  have hb := B.bytes
  have hr := B.returns
  have hts := atoms_spec (ws := wsX8_lose) B.pre
  have hta : ∀ w ∈ wA, w.before ([.ref h_t, .int p0] : List Value).toArray s = true := hta_of hts
  have hown : s.vm.findClass RX8 = some m.cls := findClass_of_methodNamed B.named
  have hlocks := B.notSynchronized
  subst hsz
  have hD := hD0.self (sz := s.heap.size)
  generalize hAe : va_A [(h_t, .inr (7, [.ref h_t_desk, .ref h_t_imageDesk, .ref h_t_deeds, .ref h_t_numbers, .ref h_t_tape, .ref h_t_reader, .ref h_t_speller, .ref h_t_holders, .int t_imageKept])), (h_t_holders, .inl (cH, 6, .inr (.inr (.inr (.inr (fun i => some (d_t_holders i))))))), ((d_t_holders 0), .inr (2, [.int (t_holders_sort 0), .long (t_holders_tree 0), .int (t_holders_limit 0), .ref (q_t_holders 0), .long (t_holders_above 0), .int (t_holders_size 0)])), ((q_t_holders 0), .inl (cI, 20, .inl (a_t_holders 0))), ((d_t_holders 1), .inr (2, [.int (t_holders_sort 1), .long (t_holders_tree 1), .int (t_holders_limit 1), .ref (q_t_holders 1), .long (t_holders_above 1), .int (t_holders_size 1)])), ((q_t_holders 1), .inl (cI, 20, .inl (a_t_holders 1))), ((d_t_holders 2), .inr (2, [.int (t_holders_sort 2), .long (t_holders_tree 2), .int (t_holders_limit 2), .ref (q_t_holders 2), .long (t_holders_above 2), .int (t_holders_size 2)])), ((q_t_holders 2), .inl (cI, 20, .inl (a_t_holders 2))), ((d_t_holders 3), .inr (2, [.int (t_holders_sort 3), .long (t_holders_tree 3), .int (t_holders_limit 3), .ref (q_t_holders 3), .long (t_holders_above 3), .int (t_holders_size 3)])), ((q_t_holders 3), .inl (cI, 20, .inl (a_t_holders 3))), ((d_t_holders 4), .inr (2, [.int (t_holders_sort 4), .long (t_holders_tree 4), .int (t_holders_limit 4), .ref (q_t_holders 4), .long (t_holders_above 4), .int (t_holders_size 4)])), ((q_t_holders 4), .inl (cI, 20, .inl (a_t_holders 4))), ((d_t_holders 5), .inr (2, [.int (t_holders_sort 5), .long (t_holders_tree 5), .int (t_holders_limit 5), .ref (q_t_holders 5), .long (t_holders_above 5), .int (t_holders_size 5)])), ((q_t_holders 5), .inl (cI, 20, .inl (a_t_holders 5)))] s.heap.size = A at hD ⊢
  have hA : ∀ q : Nat, s.heap.size ≤ q → A q := fun q h => by rw [← hAe]; exact Or.inr h
  have hS : va_S A s.heap s.heap [] := va_S.rf
  have hl := lv_entry ([.ref h_t, .int p0]) (n := 4) (Nat.le_of_ble_eq_true rfl)
  rw [lg_entry_eq]
  generalize (lg_sl ([.ref h_t, .int p0]) ++ List.replicate (4 - (lg_sl ([.ref h_t, .int p0])).length) Slot.unset).toArray = ls at hl ⊢
  have hl : lv_has ls 4 [(0, .ref h_t), (1, .int p0)] := hl
  have hinX2 : ∀ w ∈ wsX20, w ∈ wsX8_lose := hin_of in_X2
  have h := hF
  unfold F_X8_lose at h
  refine lv_aload_n hx hb dX8_lose_0 rfl (lv_at hl 0 rfl) ?_
  refine lv_iload_n hx hb dX8_lose_1 rfl (lv_at hl 1 rfl) ?_
  obtain ⟨x1, hx1, h⟩ := bd_e h
  try dsimp only at h
  have hc1 := k_lt_X8_holderAt hx1
  by_cases hd1 : x1 = 6
  · subst hd1
    refine k_VqU (n := 1) (As := [.int p0]) (rest := []) hx hb hml hown hts (c_X8_holderAt l G cI cJ cD cH s.heap.size h_t h_t_holders h_t_desk h_t_imageDesk h_t_deeds h_t_numbers h_t_tape h_t_reader h_t_speller d_t_holders q_t_holders a_t_holders t_holders_sort t_holders_tree t_holders_limit t_holders_above t_holders_size t_imageKept p0 6 hx1) gX8_lose_X8_holderAt rfl rfl rfl (by decide +kernel) ⟨by first | exact Nat.le_of_ble_eq_true rfl | (simp only [headSpec]; omega), by first | exact Nat.le_of_ble_eq_true rfl | (simp only [headSpec]; omega)⟩ hK hP hD hS hA [0, 1, 2, 3, 4, 5, 6, 7, 8, 9, 10, 11, 12, 13] (by decide) rfl (ci := 7) rfl rfl rfl rfl rfl hl.1 (Nat.le_of_ble_eq_true rfl) dX8_lose_2 ⟨Nat.zero_le _, Nat.zero_le _⟩ (fun hp1 H locs hP hS => ?_)
    refine W.eq (g2 := F0 m 5 ls [.null]) rfl ?_
    have h := it_p h rfl
    refine lv_astore_nN (lv' := [(2, .null), (0, .ref h_t), (1, .int p0)]) hx hb dX8_lose_5 rfl hl (by decide) rfl (fun ls hl => ?_)
    refine lv_aload_nN hx hb dX8_lose_6 rfl (lv_at hl 0 rfl) ?_
    refine lv_ifnonnullN hx hb dX8_lose_7 ?_
    refine lv_iconst (v := (-1 : Int32)) hx hb dX8_lose_10 (by decide) ?_
    have h9 := Option.some.inj h
    have e9 : (-1 : Int32) = r0 := congrArg (fun z9 => z9.1) h9
    rw [← e9]
    have e9 : t_holders_sort = w0 := congrArg (fun z9 => z9.2) h9
    rw [← e9]
    exact k_iret hx hb hr hlocks hP hS rfl dX8_lose_11
  have hb1 : x1 < 6 := by omega
  refine k_VqU (n := 1) (As := [.int p0]) (rest := []) hx hb hml hown hts (c_X8_holderAt l G cI cJ cD cH s.heap.size h_t h_t_holders h_t_desk h_t_imageDesk h_t_deeds h_t_numbers h_t_tape h_t_reader h_t_speller d_t_holders q_t_holders a_t_holders t_holders_sort t_holders_tree t_holders_limit t_holders_above t_holders_size t_imageKept p0 x1 hx1) gX8_lose_X8_holderAt rfl rfl rfl (by decide +kernel) ⟨by first | exact Nat.le_of_ble_eq_true rfl | (simp only [headSpec]; omega), by first | exact Nat.le_of_ble_eq_true rfl | (simp only [headSpec]; omega)⟩ hK hP hD hS hA [0, 1, 2, 3, 4, 5, 6, 7, 8, 9, 10, 11, 12, 13] (by decide) rfl (ci := 7) rfl rfl rfl rfl rfl hl.1 (Nat.le_of_ble_eq_true rfl) dX8_lose_2 ⟨Nat.zero_le _, Nat.zero_le _⟩ (fun hp1 H locs hP hS => ?_)
  refine W.eq (g2 := F0 m 5 ls [.ref (d_t_holders x1)]) (by rw [if_neg hd1]; rfl) ?_
  have h := it_n h hd1
  refine lv_astore_n (lv' := [(2, .ref (d_t_holders x1)), (0, .ref h_t), (1, .int p0)]) hx hb dX8_lose_5 rfl hl (by decide) rfl (fun ls hl => ?_)
  refine lv_aload_n hx hb dX8_lose_6 rfl (lv_at hl 0 rfl) ?_
  refine lv_ifnonnull (tgt := 12) hx hb dX8_lose_7 (by decide) ?_
  refine lv_aload_n hx hb dX8_lose_12 rfl (lv_at hl 0 rfl) ?_
  refine va_get (D := G) (fs := [.int (t_holders_sort x1), .long (t_holders_tree x1), .int (t_holders_limit x1), .ref (q_t_holders x1), .long (t_holders_above x1), .int (t_holders_size x1)]) (ci := 2) (v := .int (t_holders_sort x1)) (C := RX2) (T := TX2) (N := 6) hx hb hts hinX2 hown hK hP (2 + 2 * x1) (by obtain rfl | rfl | rfl | rfl | rfl | rfl := k_lt6 hb1 <;> rfl) rfl 0 (by decide) (hta _ mw_572) (fun _ h9 => h9) rfl dX8_lose_13 ?_
  refine lv_istore_n (lv' := [(3, .int (t_holders_sort x1)), (2, .ref (d_t_holders x1)), (0, .ref h_t), (1, .int p0)]) hx hb dX8_lose_16 rfl hl (by decide) rfl (fun ls hl => ?_)
  refine lv_aload_n hx hb dX8_lose_17 rfl (lv_at hl 1 rfl) ?_
  refine lv_iconst (v := (0 : Int32)) hx hb dX8_lose_18 (by decide) ?_
  refine va_put (D := G) (fs := [.int (t_holders_sort x1), .long (t_holders_tree x1), .int (t_holders_limit x1), .ref (q_t_holders x1), .long (t_holders_above x1), .int (t_holders_size x1)]) (ci := 2) (v := .int (0 : Int32)) (ty := .int) (C := RX2) (T := TX2) (N := 6) hx hb hts hinX2 tyX2 tyX2_ok nmX2 hown hK hP hD hS (2 + 2 * x1) (by obtain rfl | rfl | rfl | rfl | rfl | rfl := k_lt6 hb1 <;> rfl) rfl 0 (by decide) (hta _ mw_572) (fun _ h9 => h9) rfl (by decide +kernel) rfl rfl (Nat.le_of_ble_eq_true rfl) dX8_lose_19 (fun H locs hP hD hS => ?_)
  have he9 : ([(h_t, .inr (7, [.ref h_t_desk, .ref h_t_imageDesk, .ref h_t_deeds, .ref h_t_numbers, .ref h_t_tape, .ref h_t_reader, .ref h_t_speller, .ref h_t_holders, .int t_imageKept])), (h_t_holders, .inl (cH, 6, .inr (.inr (.inr (.inr (fun i => some (d_t_holders i))))))), ((d_t_holders 0), .inr (2, [.int (t_holders_sort 0), .long (t_holders_tree 0), .int (t_holders_limit 0), .ref (q_t_holders 0), .long (t_holders_above 0), .int (t_holders_size 0)])), ((q_t_holders 0), .inl (cI, 20, .inl (a_t_holders 0))), ((d_t_holders 1), .inr (2, [.int (t_holders_sort 1), .long (t_holders_tree 1), .int (t_holders_limit 1), .ref (q_t_holders 1), .long (t_holders_above 1), .int (t_holders_size 1)])), ((q_t_holders 1), .inl (cI, 20, .inl (a_t_holders 1))), ((d_t_holders 2), .inr (2, [.int (t_holders_sort 2), .long (t_holders_tree 2), .int (t_holders_limit 2), .ref (q_t_holders 2), .long (t_holders_above 2), .int (t_holders_size 2)])), ((q_t_holders 2), .inl (cI, 20, .inl (a_t_holders 2))), ((d_t_holders 3), .inr (2, [.int (t_holders_sort 3), .long (t_holders_tree 3), .int (t_holders_limit 3), .ref (q_t_holders 3), .long (t_holders_above 3), .int (t_holders_size 3)])), ((q_t_holders 3), .inl (cI, 20, .inl (a_t_holders 3))), ((d_t_holders 4), .inr (2, [.int (t_holders_sort 4), .long (t_holders_tree 4), .int (t_holders_limit 4), .ref (q_t_holders 4), .long (t_holders_above 4), .int (t_holders_size 4)])), ((q_t_holders 4), .inl (cI, 20, .inl (a_t_holders 4))), ((d_t_holders 5), .inr (2, [.int (t_holders_sort 5), .long (t_holders_tree 5), .int (t_holders_limit 5), .ref (q_t_holders 5), .long (t_holders_above 5), .int (t_holders_size 5)])), ((q_t_holders 5), .inl (cI, 20, .inl (a_t_holders 5)))] : va_W).set (2 + 2 * x1) ((d_t_holders x1), .inr (2, [.int (0 : Int32), .long (t_holders_tree x1), .int (t_holders_limit x1), .ref (q_t_holders x1), .long (t_holders_above x1), .int (t_holders_size x1)])) = [(h_t, .inr (7, [.ref h_t_desk, .ref h_t_imageDesk, .ref h_t_deeds, .ref h_t_numbers, .ref h_t_tape, .ref h_t_reader, .ref h_t_speller, .ref h_t_holders, .int t_imageKept])), (h_t_holders, .inl (cH, 6, .inr (.inr (.inr (.inr (fun i => some (d_t_holders i))))))), ((d_t_holders 0), .inr (2, [.int ((va_up t_holders_sort x1 (0 : Int32)) 0), .long (t_holders_tree 0), .int (t_holders_limit 0), .ref (q_t_holders 0), .long (t_holders_above 0), .int (t_holders_size 0)])), ((q_t_holders 0), .inl (cI, 20, .inl (a_t_holders 0))), ((d_t_holders 1), .inr (2, [.int ((va_up t_holders_sort x1 (0 : Int32)) 1), .long (t_holders_tree 1), .int (t_holders_limit 1), .ref (q_t_holders 1), .long (t_holders_above 1), .int (t_holders_size 1)])), ((q_t_holders 1), .inl (cI, 20, .inl (a_t_holders 1))), ((d_t_holders 2), .inr (2, [.int ((va_up t_holders_sort x1 (0 : Int32)) 2), .long (t_holders_tree 2), .int (t_holders_limit 2), .ref (q_t_holders 2), .long (t_holders_above 2), .int (t_holders_size 2)])), ((q_t_holders 2), .inl (cI, 20, .inl (a_t_holders 2))), ((d_t_holders 3), .inr (2, [.int ((va_up t_holders_sort x1 (0 : Int32)) 3), .long (t_holders_tree 3), .int (t_holders_limit 3), .ref (q_t_holders 3), .long (t_holders_above 3), .int (t_holders_size 3)])), ((q_t_holders 3), .inl (cI, 20, .inl (a_t_holders 3))), ((d_t_holders 4), .inr (2, [.int ((va_up t_holders_sort x1 (0 : Int32)) 4), .long (t_holders_tree 4), .int (t_holders_limit 4), .ref (q_t_holders 4), .long (t_holders_above 4), .int (t_holders_size 4)])), ((q_t_holders 4), .inl (cI, 20, .inl (a_t_holders 4))), ((d_t_holders 5), .inr (2, [.int ((va_up t_holders_sort x1 (0 : Int32)) 5), .long (t_holders_tree 5), .int (t_holders_limit 5), .ref (q_t_holders 5), .long (t_holders_above 5), .int (t_holders_size 5)])), ((q_t_holders 5), .inl (cI, 20, .inl (a_t_holders 5)))] := (by obtain rfl | rfl | rfl | rfl | rfl | rfl := k_lt6 hb1 <;> rfl)
  have hP : va_P G vwCl [(h_t, .inr (7, [.ref h_t_desk, .ref h_t_imageDesk, .ref h_t_deeds, .ref h_t_numbers, .ref h_t_tape, .ref h_t_reader, .ref h_t_speller, .ref h_t_holders, .int t_imageKept])), (h_t_holders, .inl (cH, 6, .inr (.inr (.inr (.inr (fun i => some (d_t_holders i))))))), ((d_t_holders 0), .inr (2, [.int ((va_up t_holders_sort x1 (0 : Int32)) 0), .long (t_holders_tree 0), .int (t_holders_limit 0), .ref (q_t_holders 0), .long (t_holders_above 0), .int (t_holders_size 0)])), ((q_t_holders 0), .inl (cI, 20, .inl (a_t_holders 0))), ((d_t_holders 1), .inr (2, [.int ((va_up t_holders_sort x1 (0 : Int32)) 1), .long (t_holders_tree 1), .int (t_holders_limit 1), .ref (q_t_holders 1), .long (t_holders_above 1), .int (t_holders_size 1)])), ((q_t_holders 1), .inl (cI, 20, .inl (a_t_holders 1))), ((d_t_holders 2), .inr (2, [.int ((va_up t_holders_sort x1 (0 : Int32)) 2), .long (t_holders_tree 2), .int (t_holders_limit 2), .ref (q_t_holders 2), .long (t_holders_above 2), .int (t_holders_size 2)])), ((q_t_holders 2), .inl (cI, 20, .inl (a_t_holders 2))), ((d_t_holders 3), .inr (2, [.int ((va_up t_holders_sort x1 (0 : Int32)) 3), .long (t_holders_tree 3), .int (t_holders_limit 3), .ref (q_t_holders 3), .long (t_holders_above 3), .int (t_holders_size 3)])), ((q_t_holders 3), .inl (cI, 20, .inl (a_t_holders 3))), ((d_t_holders 4), .inr (2, [.int ((va_up t_holders_sort x1 (0 : Int32)) 4), .long (t_holders_tree 4), .int (t_holders_limit 4), .ref (q_t_holders 4), .long (t_holders_above 4), .int (t_holders_size 4)])), ((q_t_holders 4), .inl (cI, 20, .inl (a_t_holders 4))), ((d_t_holders 5), .inr (2, [.int ((va_up t_holders_sort x1 (0 : Int32)) 5), .long (t_holders_tree 5), .int (t_holders_limit 5), .ref (q_t_holders 5), .long (t_holders_above 5), .int (t_holders_size 5)])), ((q_t_holders 5), .inl (cI, 20, .inl (a_t_holders 5)))] H := Eq.mp (congrArg (fun X9 => va_P G vwCl X9 H) he9) hP
  have hD : va_D A [(h_t, .inr (7, [.ref h_t_desk, .ref h_t_imageDesk, .ref h_t_deeds, .ref h_t_numbers, .ref h_t_tape, .ref h_t_reader, .ref h_t_speller, .ref h_t_holders, .int t_imageKept])), (h_t_holders, .inl (cH, 6, .inr (.inr (.inr (.inr (fun i => some (d_t_holders i))))))), ((d_t_holders 0), .inr (2, [.int ((va_up t_holders_sort x1 (0 : Int32)) 0), .long (t_holders_tree 0), .int (t_holders_limit 0), .ref (q_t_holders 0), .long (t_holders_above 0), .int (t_holders_size 0)])), ((q_t_holders 0), .inl (cI, 20, .inl (a_t_holders 0))), ((d_t_holders 1), .inr (2, [.int ((va_up t_holders_sort x1 (0 : Int32)) 1), .long (t_holders_tree 1), .int (t_holders_limit 1), .ref (q_t_holders 1), .long (t_holders_above 1), .int (t_holders_size 1)])), ((q_t_holders 1), .inl (cI, 20, .inl (a_t_holders 1))), ((d_t_holders 2), .inr (2, [.int ((va_up t_holders_sort x1 (0 : Int32)) 2), .long (t_holders_tree 2), .int (t_holders_limit 2), .ref (q_t_holders 2), .long (t_holders_above 2), .int (t_holders_size 2)])), ((q_t_holders 2), .inl (cI, 20, .inl (a_t_holders 2))), ((d_t_holders 3), .inr (2, [.int ((va_up t_holders_sort x1 (0 : Int32)) 3), .long (t_holders_tree 3), .int (t_holders_limit 3), .ref (q_t_holders 3), .long (t_holders_above 3), .int (t_holders_size 3)])), ((q_t_holders 3), .inl (cI, 20, .inl (a_t_holders 3))), ((d_t_holders 4), .inr (2, [.int ((va_up t_holders_sort x1 (0 : Int32)) 4), .long (t_holders_tree 4), .int (t_holders_limit 4), .ref (q_t_holders 4), .long (t_holders_above 4), .int (t_holders_size 4)])), ((q_t_holders 4), .inl (cI, 20, .inl (a_t_holders 4))), ((d_t_holders 5), .inr (2, [.int ((va_up t_holders_sort x1 (0 : Int32)) 5), .long (t_holders_tree 5), .int (t_holders_limit 5), .ref (q_t_holders 5), .long (t_holders_above 5), .int (t_holders_size 5)])), ((q_t_holders 5), .inl (cI, 20, .inl (a_t_holders 5)))] := Eq.mp (congrArg (fun X9 => va_D A X9) he9) hD
  have hP : va_P G vwCl [(h_t, .inr (7, [.ref h_t_desk, .ref h_t_imageDesk, .ref h_t_deeds, .ref h_t_numbers, .ref h_t_tape, .ref h_t_reader, .ref h_t_speller, .ref h_t_holders, .int t_imageKept])), (h_t_holders, .inl (cH, 6, .inr (.inr (.inr (.inr (fun i => some (d_t_holders i))))))), ((d_t_holders 0), .inr (2, [.int ((va_up t_holders_sort x1 (0 : Int32)) 0), .long (t_holders_tree 0), .int (t_holders_limit 0), .ref (q_t_holders 0), .long (t_holders_above 0), .int (t_holders_size 0)])), ((q_t_holders 0), .inl (cI, 20, .inl (a_t_holders 0))), ((d_t_holders 1), .inr (2, [.int ((va_up t_holders_sort x1 (0 : Int32)) 1), .long (t_holders_tree 1), .int (t_holders_limit 1), .ref (q_t_holders 1), .long (t_holders_above 1), .int (t_holders_size 1)])), ((q_t_holders 1), .inl (cI, 20, .inl (a_t_holders 1))), ((d_t_holders 2), .inr (2, [.int ((va_up t_holders_sort x1 (0 : Int32)) 2), .long (t_holders_tree 2), .int (t_holders_limit 2), .ref (q_t_holders 2), .long (t_holders_above 2), .int (t_holders_size 2)])), ((q_t_holders 2), .inl (cI, 20, .inl (a_t_holders 2))), ((d_t_holders 3), .inr (2, [.int ((va_up t_holders_sort x1 (0 : Int32)) 3), .long (t_holders_tree 3), .int (t_holders_limit 3), .ref (q_t_holders 3), .long (t_holders_above 3), .int (t_holders_size 3)])), ((q_t_holders 3), .inl (cI, 20, .inl (a_t_holders 3))), ((d_t_holders 4), .inr (2, [.int ((va_up t_holders_sort x1 (0 : Int32)) 4), .long (t_holders_tree 4), .int (t_holders_limit 4), .ref (q_t_holders 4), .long (t_holders_above 4), .int (t_holders_size 4)])), ((q_t_holders 4), .inl (cI, 20, .inl (a_t_holders 4))), ((d_t_holders 5), .inr (2, [.int ((va_up t_holders_sort x1 (0 : Int32)) 5), .long (t_holders_tree 5), .int (t_holders_limit 5), .ref (q_t_holders 5), .long (t_holders_above 5), .int (t_holders_size 5)])), ((q_t_holders 5), .inl (cI, 20, .inl (a_t_holders 5)))] H := hP
  have hD : va_D A [(h_t, .inr (7, [.ref h_t_desk, .ref h_t_imageDesk, .ref h_t_deeds, .ref h_t_numbers, .ref h_t_tape, .ref h_t_reader, .ref h_t_speller, .ref h_t_holders, .int t_imageKept])), (h_t_holders, .inl (cH, 6, .inr (.inr (.inr (.inr (fun i => some (d_t_holders i))))))), ((d_t_holders 0), .inr (2, [.int ((va_up t_holders_sort x1 (0 : Int32)) 0), .long (t_holders_tree 0), .int (t_holders_limit 0), .ref (q_t_holders 0), .long (t_holders_above 0), .int (t_holders_size 0)])), ((q_t_holders 0), .inl (cI, 20, .inl (a_t_holders 0))), ((d_t_holders 1), .inr (2, [.int ((va_up t_holders_sort x1 (0 : Int32)) 1), .long (t_holders_tree 1), .int (t_holders_limit 1), .ref (q_t_holders 1), .long (t_holders_above 1), .int (t_holders_size 1)])), ((q_t_holders 1), .inl (cI, 20, .inl (a_t_holders 1))), ((d_t_holders 2), .inr (2, [.int ((va_up t_holders_sort x1 (0 : Int32)) 2), .long (t_holders_tree 2), .int (t_holders_limit 2), .ref (q_t_holders 2), .long (t_holders_above 2), .int (t_holders_size 2)])), ((q_t_holders 2), .inl (cI, 20, .inl (a_t_holders 2))), ((d_t_holders 3), .inr (2, [.int ((va_up t_holders_sort x1 (0 : Int32)) 3), .long (t_holders_tree 3), .int (t_holders_limit 3), .ref (q_t_holders 3), .long (t_holders_above 3), .int (t_holders_size 3)])), ((q_t_holders 3), .inl (cI, 20, .inl (a_t_holders 3))), ((d_t_holders 4), .inr (2, [.int ((va_up t_holders_sort x1 (0 : Int32)) 4), .long (t_holders_tree 4), .int (t_holders_limit 4), .ref (q_t_holders 4), .long (t_holders_above 4), .int (t_holders_size 4)])), ((q_t_holders 4), .inl (cI, 20, .inl (a_t_holders 4))), ((d_t_holders 5), .inr (2, [.int ((va_up t_holders_sort x1 (0 : Int32)) 5), .long (t_holders_tree 5), .int (t_holders_limit 5), .ref (q_t_holders 5), .long (t_holders_above 5), .int (t_holders_size 5)])), ((q_t_holders 5), .inl (cI, 20, .inl (a_t_holders 5)))] := hD
  refine lv_iload_n hx hb dX8_lose_22 rfl (lv_at hl 0 rfl) ?_
  have h9 := Option.some.inj h
  have e9 : (t_holders_sort x1) = r0 := congrArg (fun z9 => z9.1) h9
  rw [← e9]
  have e9 : (va_up t_holders_sort x1 (0 : Int32)) = w0 := congrArg (fun z9 => z9.2) h9
  rw [← e9]
  exact k_iret hx hb hr hlocks hP hS rfl dX8_lose_23

/-! X8_taken -/
set_option maxHeartbeats 40000000 in
set_option maxRecDepth 100000 in
theorem c_X8_taken (l : Launch) (G : va_G) (cI cJ cD cH : ClassId) (sz : Nat) (h_t : Nat) (h_t_holders : Nat) (h_t_desk : Nat) (h_t_imageDesk : Nat) (h_t_deeds : Nat) (h_t_numbers : Nat) (h_t_tape : Nat) (h_t_reader : Nat) (h_t_speller : Nat) (d_t_holders : Nat → Nat) (q_t_holders : Nat → Nat) (a_t_holders : Nat → Nat → Int32) (t_holders_sort : Nat → Int32) (t_holders_tree : Nat → Int64) (t_holders_limit : Nat → Int32) (t_holders_above : Nat → Int64) (t_holders_size : Nat → Int32) (t_imageKept : Int32) (p0 : Int32) (p1 : Int32) (r0 : Int32) (hF : F_X8_taken t_holders_sort t_holders_tree t_holders_limit t_holders_above p0 p1 = some r0) : Met l yX8_taken wsX8_taken ({ frames := 4, cells := 0, slots := 0, locals := 83 }) (k_pre G (k_T cI cJ cD cH) [(h_t, .inr (7, [.ref h_t_desk, .ref h_t_imageDesk, .ref h_t_deeds, .ref h_t_numbers, .ref h_t_tape, .ref h_t_reader, .ref h_t_speller, .ref h_t_holders, .int t_imageKept])), (h_t_holders, .inl (cH, 6, .inr (.inr (.inr (.inr (fun i => some (d_t_holders i))))))), ((d_t_holders 0), .inr (2, [.int (t_holders_sort 0), .long (t_holders_tree 0), .int (t_holders_limit 0), .ref (q_t_holders 0), .long (t_holders_above 0), .int (t_holders_size 0)])), ((q_t_holders 0), .inl (cI, 20, .inl (a_t_holders 0))), ((d_t_holders 1), .inr (2, [.int (t_holders_sort 1), .long (t_holders_tree 1), .int (t_holders_limit 1), .ref (q_t_holders 1), .long (t_holders_above 1), .int (t_holders_size 1)])), ((q_t_holders 1), .inl (cI, 20, .inl (a_t_holders 1))), ((d_t_holders 2), .inr (2, [.int (t_holders_sort 2), .long (t_holders_tree 2), .int (t_holders_limit 2), .ref (q_t_holders 2), .long (t_holders_above 2), .int (t_holders_size 2)])), ((q_t_holders 2), .inl (cI, 20, .inl (a_t_holders 2))), ((d_t_holders 3), .inr (2, [.int (t_holders_sort 3), .long (t_holders_tree 3), .int (t_holders_limit 3), .ref (q_t_holders 3), .long (t_holders_above 3), .int (t_holders_size 3)])), ((q_t_holders 3), .inl (cI, 20, .inl (a_t_holders 3))), ((d_t_holders 4), .inr (2, [.int (t_holders_sort 4), .long (t_holders_tree 4), .int (t_holders_limit 4), .ref (q_t_holders 4), .long (t_holders_above 4), .int (t_holders_size 4)])), ((q_t_holders 4), .inl (cI, 20, .inl (a_t_holders 4))), ((d_t_holders 5), .inr (2, [.int (t_holders_sort 5), .long (t_holders_tree 5), .int (t_holders_limit 5), .ref (q_t_holders 5), .long (t_holders_above 5), .int (t_holders_size 5)])), ((q_t_holders 5), .inl (cI, 20, .inl (a_t_holders 5)))] sz [.ref h_t, .int p0, .int p1]) (va_Qi (fun r (_ : Unit) => r = r0 ∧ True) (fun _ t => va_P G vwCl [(h_t, .inr (7, [.ref h_t_desk, .ref h_t_imageDesk, .ref h_t_deeds, .ref h_t_numbers, .ref h_t_tape, .ref h_t_reader, .ref h_t_speller, .ref h_t_holders, .int t_imageKept])), (h_t_holders, .inl (cH, 6, .inr (.inr (.inr (.inr (fun i => some (d_t_holders i))))))), ((d_t_holders 0), .inr (2, [.int (t_holders_sort 0), .long (t_holders_tree 0), .int (t_holders_limit 0), .ref (q_t_holders 0), .long (t_holders_above 0), .int (t_holders_size 0)])), ((q_t_holders 0), .inl (cI, 20, .inl (a_t_holders 0))), ((d_t_holders 1), .inr (2, [.int (t_holders_sort 1), .long (t_holders_tree 1), .int (t_holders_limit 1), .ref (q_t_holders 1), .long (t_holders_above 1), .int (t_holders_size 1)])), ((q_t_holders 1), .inl (cI, 20, .inl (a_t_holders 1))), ((d_t_holders 2), .inr (2, [.int (t_holders_sort 2), .long (t_holders_tree 2), .int (t_holders_limit 2), .ref (q_t_holders 2), .long (t_holders_above 2), .int (t_holders_size 2)])), ((q_t_holders 2), .inl (cI, 20, .inl (a_t_holders 2))), ((d_t_holders 3), .inr (2, [.int (t_holders_sort 3), .long (t_holders_tree 3), .int (t_holders_limit 3), .ref (q_t_holders 3), .long (t_holders_above 3), .int (t_holders_size 3)])), ((q_t_holders 3), .inl (cI, 20, .inl (a_t_holders 3))), ((d_t_holders 4), .inr (2, [.int (t_holders_sort 4), .long (t_holders_tree 4), .int (t_holders_limit 4), .ref (q_t_holders 4), .long (t_holders_above 4), .int (t_holders_size 4)])), ((q_t_holders 4), .inl (cI, 20, .inl (a_t_holders 4))), ((d_t_holders 5), .inr (2, [.int (t_holders_sort 5), .long (t_holders_tree 5), .int (t_holders_limit 5), .ref (q_t_holders 5), .long (t_holders_above 5), .int (t_holders_size 5)])), ((q_t_holders 5), .inl (cI, 20, .inl (a_t_holders 5)))] t.heap) (va_A [(h_t, .inr (7, [.ref h_t_desk, .ref h_t_imageDesk, .ref h_t_deeds, .ref h_t_numbers, .ref h_t_tape, .ref h_t_reader, .ref h_t_speller, .ref h_t_holders, .int t_imageKept])), (h_t_holders, .inl (cH, 6, .inr (.inr (.inr (.inr (fun i => some (d_t_holders i))))))), ((d_t_holders 0), .inr (2, [.int (t_holders_sort 0), .long (t_holders_tree 0), .int (t_holders_limit 0), .ref (q_t_holders 0), .long (t_holders_above 0), .int (t_holders_size 0)])), ((q_t_holders 0), .inl (cI, 20, .inl (a_t_holders 0))), ((d_t_holders 1), .inr (2, [.int (t_holders_sort 1), .long (t_holders_tree 1), .int (t_holders_limit 1), .ref (q_t_holders 1), .long (t_holders_above 1), .int (t_holders_size 1)])), ((q_t_holders 1), .inl (cI, 20, .inl (a_t_holders 1))), ((d_t_holders 2), .inr (2, [.int (t_holders_sort 2), .long (t_holders_tree 2), .int (t_holders_limit 2), .ref (q_t_holders 2), .long (t_holders_above 2), .int (t_holders_size 2)])), ((q_t_holders 2), .inl (cI, 20, .inl (a_t_holders 2))), ((d_t_holders 3), .inr (2, [.int (t_holders_sort 3), .long (t_holders_tree 3), .int (t_holders_limit 3), .ref (q_t_holders 3), .long (t_holders_above 3), .int (t_holders_size 3)])), ((q_t_holders 3), .inl (cI, 20, .inl (a_t_holders 3))), ((d_t_holders 4), .inr (2, [.int (t_holders_sort 4), .long (t_holders_tree 4), .int (t_holders_limit 4), .ref (q_t_holders 4), .long (t_holders_above 4), .int (t_holders_size 4)])), ((q_t_holders 4), .inl (cI, 20, .inl (a_t_holders 4))), ((d_t_holders 5), .inr (2, [.int (t_holders_sort 5), .long (t_holders_tree 5), .int (t_holders_limit 5), .ref (q_t_holders 5), .long (t_holders_above 5), .int (t_holders_size 5)])), ((q_t_holders 5), .inl (cI, 20, .inl (a_t_holders 5)))] sz)) 0 0 (va_A [(h_t, .inr (7, [.ref h_t_desk, .ref h_t_imageDesk, .ref h_t_deeds, .ref h_t_numbers, .ref h_t_tape, .ref h_t_reader, .ref h_t_speller, .ref h_t_holders, .int t_imageKept])), (h_t_holders, .inl (cH, 6, .inr (.inr (.inr (.inr (fun i => some (d_t_holders i))))))), ((d_t_holders 0), .inr (2, [.int (t_holders_sort 0), .long (t_holders_tree 0), .int (t_holders_limit 0), .ref (q_t_holders 0), .long (t_holders_above 0), .int (t_holders_size 0)])), ((q_t_holders 0), .inl (cI, 20, .inl (a_t_holders 0))), ((d_t_holders 1), .inr (2, [.int (t_holders_sort 1), .long (t_holders_tree 1), .int (t_holders_limit 1), .ref (q_t_holders 1), .long (t_holders_above 1), .int (t_holders_size 1)])), ((q_t_holders 1), .inl (cI, 20, .inl (a_t_holders 1))), ((d_t_holders 2), .inr (2, [.int (t_holders_sort 2), .long (t_holders_tree 2), .int (t_holders_limit 2), .ref (q_t_holders 2), .long (t_holders_above 2), .int (t_holders_size 2)])), ((q_t_holders 2), .inl (cI, 20, .inl (a_t_holders 2))), ((d_t_holders 3), .inr (2, [.int (t_holders_sort 3), .long (t_holders_tree 3), .int (t_holders_limit 3), .ref (q_t_holders 3), .long (t_holders_above 3), .int (t_holders_size 3)])), ((q_t_holders 3), .inl (cI, 20, .inl (a_t_holders 3))), ((d_t_holders 4), .inr (2, [.int (t_holders_sort 4), .long (t_holders_tree 4), .int (t_holders_limit 4), .ref (q_t_holders 4), .long (t_holders_above 4), .int (t_holders_size 4)])), ((q_t_holders 4), .inl (cI, 20, .inl (a_t_holders 4))), ((d_t_holders 5), .inr (2, [.int (t_holders_sort 5), .long (t_holders_tree 5), .int (t_holders_limit 5), .ref (q_t_holders 5), .long (t_holders_above 5), .int (t_holders_size 5)])), ((q_t_holders 5), .inl (cI, 20, .inl (a_t_holders 5)))] sz) := by
  refine Met.ofW (cc := cX8_taken) (maxL := 4) (ret := (some .int)) (by decide) rfl ?_
  intro p e s m args below meth c s₁ B hml hv
  obtain ⟨rfl, hsz, hP, hK, hD0⟩ := hv
  have hx := B.exec
  have hb := B.bytes
  have hr := B.returns
  have hts := atoms_spec (ws := wsX8_taken) B.pre
  have hta : ∀ w ∈ wA, w.before ([.ref h_t, .int p0, .int p1] : List Value).toArray s = true := hta_of hts
  have hown : s.vm.findClass RX8 = some m.cls := findClass_of_methodNamed B.named
  have hlocks := B.notSynchronized
  subst hsz
  have hD := hD0.self (sz := s.heap.size)
  generalize hAe : va_A [(h_t, .inr (7, [.ref h_t_desk, .ref h_t_imageDesk, .ref h_t_deeds, .ref h_t_numbers, .ref h_t_tape, .ref h_t_reader, .ref h_t_speller, .ref h_t_holders, .int t_imageKept])), (h_t_holders, .inl (cH, 6, .inr (.inr (.inr (.inr (fun i => some (d_t_holders i))))))), ((d_t_holders 0), .inr (2, [.int (t_holders_sort 0), .long (t_holders_tree 0), .int (t_holders_limit 0), .ref (q_t_holders 0), .long (t_holders_above 0), .int (t_holders_size 0)])), ((q_t_holders 0), .inl (cI, 20, .inl (a_t_holders 0))), ((d_t_holders 1), .inr (2, [.int (t_holders_sort 1), .long (t_holders_tree 1), .int (t_holders_limit 1), .ref (q_t_holders 1), .long (t_holders_above 1), .int (t_holders_size 1)])), ((q_t_holders 1), .inl (cI, 20, .inl (a_t_holders 1))), ((d_t_holders 2), .inr (2, [.int (t_holders_sort 2), .long (t_holders_tree 2), .int (t_holders_limit 2), .ref (q_t_holders 2), .long (t_holders_above 2), .int (t_holders_size 2)])), ((q_t_holders 2), .inl (cI, 20, .inl (a_t_holders 2))), ((d_t_holders 3), .inr (2, [.int (t_holders_sort 3), .long (t_holders_tree 3), .int (t_holders_limit 3), .ref (q_t_holders 3), .long (t_holders_above 3), .int (t_holders_size 3)])), ((q_t_holders 3), .inl (cI, 20, .inl (a_t_holders 3))), ((d_t_holders 4), .inr (2, [.int (t_holders_sort 4), .long (t_holders_tree 4), .int (t_holders_limit 4), .ref (q_t_holders 4), .long (t_holders_above 4), .int (t_holders_size 4)])), ((q_t_holders 4), .inl (cI, 20, .inl (a_t_holders 4))), ((d_t_holders 5), .inr (2, [.int (t_holders_sort 5), .long (t_holders_tree 5), .int (t_holders_limit 5), .ref (q_t_holders 5), .long (t_holders_above 5), .int (t_holders_size 5)])), ((q_t_holders 5), .inl (cI, 20, .inl (a_t_holders 5)))] s.heap.size = A at hD ⊢
  have hA : ∀ q : Nat, s.heap.size ≤ q → A q := fun q h => by rw [← hAe]; exact Or.inr h
  have hS : va_S A s.heap s.heap [] := va_S.rf
  have hl := lv_entry ([.ref h_t, .int p0, .int p1]) (n := 4) (Nat.le_of_ble_eq_true rfl)
  rw [lg_entry_eq]
  generalize (lg_sl ([.ref h_t, .int p0, .int p1]) ++ List.replicate (4 - (lg_sl ([.ref h_t, .int p0, .int p1])).length) Slot.unset).toArray = ls at hl ⊢
  have hl : lv_has ls 4 [(0, .ref h_t), (1, .int p0), (2, .int p1)] := hl
  have hinX2 : ∀ w ∈ wsX20, w ∈ wsX8_taken := hin_of in_X2
  have h := hF
  unfold F_X8_taken at h
  refine lv_aload_n hx hb dX8_taken_0 rfl (lv_at hl 0 rfl) ?_
  refine lv_iload_n hx hb dX8_taken_1 rfl (lv_at hl 1 rfl) ?_
  obtain ⟨x1, hx1, h⟩ := bd_e h
  try dsimp only at h
  have hc1 := k_lt_X8_holderAt hx1
  by_cases hd1 : x1 = 6
  · subst hd1
    refine k_VqU (n := 1) (As := [.int p0]) (rest := []) hx hb hml hown hts (c_X8_holderAt l G cI cJ cD cH s.heap.size h_t h_t_holders h_t_desk h_t_imageDesk h_t_deeds h_t_numbers h_t_tape h_t_reader h_t_speller d_t_holders q_t_holders a_t_holders t_holders_sort t_holders_tree t_holders_limit t_holders_above t_holders_size t_imageKept p0 6 hx1) gX8_taken_X8_holderAt rfl rfl rfl (by decide +kernel) ⟨by first | exact Nat.le_of_ble_eq_true rfl | (simp only [headSpec]; omega), by first | exact Nat.le_of_ble_eq_true rfl | (simp only [headSpec]; omega)⟩ hK hP hD hS hA [0, 1, 2, 3, 4, 5, 6, 7, 8, 9, 10, 11, 12, 13] (by decide) rfl (ci := 7) rfl rfl rfl rfl rfl hl.1 (Nat.le_of_ble_eq_true rfl) dX8_taken_2 ⟨Nat.zero_le _, Nat.zero_le _⟩ (fun hp1 H locs hP hS => ?_)
    refine W.eq (g2 := F0 m 5 ls [.null]) rfl ?_
    have h := it_p h rfl
    refine lv_astore_nN (lv' := [(3, .null), (0, .ref h_t), (1, .int p0), (2, .int p1)]) hx hb dX8_taken_5 rfl hl (by decide) rfl (fun ls hl => ?_)
    refine lv_aload_nN hx hb dX8_taken_6 rfl (lv_at hl 0 rfl) ?_
    refine lv_ifnullN (tgt := 19) hx hb dX8_taken_7 (by decide) ?_
    refine lv_iconst (v := (-1 : Int32)) hx hb dX8_taken_19 (by decide) ?_
    have h9 := Option.some.inj h
    have e9 : (-1 : Int32) = r0 := congrArg (fun z9 => z9) h9
    rw [← e9]
    exact k_iret hx hb hr hlocks hP hS rfl dX8_taken_20
  have hb1 : x1 < 6 := by omega
  refine k_VqU (n := 1) (As := [.int p0]) (rest := []) hx hb hml hown hts (c_X8_holderAt l G cI cJ cD cH s.heap.size h_t h_t_holders h_t_desk h_t_imageDesk h_t_deeds h_t_numbers h_t_tape h_t_reader h_t_speller d_t_holders q_t_holders a_t_holders t_holders_sort t_holders_tree t_holders_limit t_holders_above t_holders_size t_imageKept p0 x1 hx1) gX8_taken_X8_holderAt rfl rfl rfl (by decide +kernel) ⟨by first | exact Nat.le_of_ble_eq_true rfl | (simp only [headSpec]; omega), by first | exact Nat.le_of_ble_eq_true rfl | (simp only [headSpec]; omega)⟩ hK hP hD hS hA [0, 1, 2, 3, 4, 5, 6, 7, 8, 9, 10, 11, 12, 13] (by decide) rfl (ci := 7) rfl rfl rfl rfl rfl hl.1 (Nat.le_of_ble_eq_true rfl) dX8_taken_2 ⟨Nat.zero_le _, Nat.zero_le _⟩ (fun hp1 H locs hP hS => ?_)
  refine W.eq (g2 := F0 m 5 ls [.ref (d_t_holders x1)]) (by rw [if_neg hd1]; rfl) ?_
  have h := it_n h hd1
  refine lv_astore_n (lv' := [(3, .ref (d_t_holders x1)), (0, .ref h_t), (1, .int p0), (2, .int p1)]) hx hb dX8_taken_5 rfl hl (by decide) rfl (fun ls hl => ?_)
  refine lv_aload_n hx hb dX8_taken_6 rfl (lv_at hl 0 rfl) ?_
  refine lv_ifnull hx hb dX8_taken_7 ?_
  refine lv_iload_n hx hb dX8_taken_10 rfl (lv_at hl 3 rfl) ?_
  refine lv_if_lt (tgt := 19) hx hb dX8_taken_11 (by decide) (fun c2 => ?_) (fun c2 => ?_)
  · have h := it_p h c2
    refine lv_iconst (v := (-1 : Int32)) hx hb dX8_taken_19 (by decide) ?_
    have h9 := Option.some.inj h
    have e9 : (-1 : Int32) = r0 := congrArg (fun z9 => z9) h9
    rw [← e9]
    exact k_iret hx hb hr hlocks hP hS rfl dX8_taken_20
  have h := it_n h c2
  refine lv_iload_n hx hb dX8_taken_14 rfl (lv_at hl 3 rfl) ?_
  refine lv_iconst (v := (3 : Int32)) hx hb dX8_taken_15 (by decide) ?_
  refine lv_icmp_le (tgt := 21) hx hb dX8_taken_16 (by decide) (fun c3 => ?_) (fun c3 => ?_)
  rotate_left
  · have h := it_n h c3
    refine lv_iconst (v := (-1 : Int32)) hx hb dX8_taken_19 (by decide) ?_
    have h9 := Option.some.inj h
    have e9 : (-1 : Int32) = r0 := congrArg (fun z9 => z9) h9
    rw [← e9]
    exact k_iret hx hb hr hlocks hP hS rfl dX8_taken_20
  have h := it_p h c3
  refine lv_aload_n hx hb dX8_taken_21 rfl (lv_at hl 0 rfl) ?_
  refine va_get (D := G) (fs := [.int (t_holders_sort x1), .long (t_holders_tree x1), .int (t_holders_limit x1), .ref (q_t_holders x1), .long (t_holders_above x1), .int (t_holders_size x1)]) (ci := 2) (v := .int (t_holders_sort x1)) (C := RX2) (T := TX2) (N := 6) hx hb hts hinX2 hown hK hP (2 + 2 * x1) (by obtain rfl | rfl | rfl | rfl | rfl | rfl := k_lt6 hb1 <;> rfl) rfl 0 (by decide) (hta _ mw_572) (fun _ h9 => h9) rfl dX8_taken_22 ?_
  refine lv_if_ne (tgt := 31) hx hb dX8_taken_25 (by decide) (fun c4 => ?_) (fun c4 => ?_)
  rotate_left
  · have h := it_p h c4
    refine lv_bipush (v := (-11 : Int32)) hx hb dX8_taken_28 (by decide) ?_
    have h9 := Option.some.inj h
    have e9 : (-11 : Int32) = r0 := congrArg (fun z9 => z9) h9
    rw [← e9]
    exact k_iret hx hb hr hlocks hP hS rfl dX8_taken_30
  have h := it_n h c4
  refine lv_aload_n hx hb dX8_taken_31 rfl (lv_at hl 0 rfl) ?_
  refine lv_iload_n hx hb dX8_taken_32 rfl (lv_at hl 3 rfl) ?_
  obtain ⟨x5, hx5, h⟩ := bd_e h
  try dsimp only at h
  refine k_ViU (n := 1) (As := [.int p1]) (rest := []) hx hb hml hown hts (c_X2_isOfKind l G cI cJ cD cH H.size (d_t_holders x1) (q_t_holders x1) (t_holders_sort x1) (t_holders_tree x1) (t_holders_limit x1) (t_holders_above x1) (t_holders_size x1) p1 x5 hx5) gX8_taken_X2_isOfKind rfl rfl rfl (by decide +kernel) ⟨by first | exact Nat.le_of_ble_eq_true rfl | (simp only [headSpec]; omega), by first | exact Nat.le_of_ble_eq_true rfl | (simp only [headSpec]; omega)⟩ hK hP hD hS hA [(2 + 2 * x1)] (by obtain rfl | rfl | rfl | rfl | rfl | rfl := k_lt6 hb1 <;> decide) (by obtain rfl | rfl | rfl | rfl | rfl | rfl := k_lt6 hb1 <;> rfl) (ci := 2) rfl rfl rfl rfl rfl hl.1 (Nat.le_of_ble_eq_true rfl) dX8_taken_33 ⟨Nat.zero_le _, Nat.zero_le _⟩ (fun hp5 H locs hP hS => ?_)
  refine lv_if_eq (tgt := 47) hx hb dX8_taken_36 (by decide) (fun c6 => ?_) (fun c6 => ?_)
  · have h := it_p h c6
    refine lv_bipush (v := (-12 : Int32)) hx hb dX8_taken_47 (by decide) ?_
    have h9 := Option.some.inj h
    have e9 : (-12 : Int32) = r0 := congrArg (fun z9 => z9) h9
    rw [← e9]
    exact k_iret hx hb hr hlocks hP hS rfl dX8_taken_49
  have h := it_n h c6
  refine lv_aload_n hx hb dX8_taken_39 rfl (lv_at hl 0 rfl) ?_
  refine lv_iload_n hx hb dX8_taken_40 rfl (lv_at hl 3 rfl) ?_
  obtain ⟨x7, hx7, h⟩ := bd_e h
  try dsimp only at h
  refine k_ViU (n := 1) (As := [.int p1]) (rest := []) hx hb hml hown hts (c_X2_takenFor l G cI cJ cD cH H.size (d_t_holders x1) (q_t_holders x1) (t_holders_sort x1) (t_holders_tree x1) (t_holders_limit x1) (t_holders_above x1) (t_holders_size x1) p1 x7 hx7) gX8_taken_X2_takenFor rfl rfl rfl (by decide +kernel) ⟨by first | exact Nat.le_of_ble_eq_true rfl | (simp only [headSpec]; omega), by first | exact Nat.le_of_ble_eq_true rfl | (simp only [headSpec]; omega)⟩ hK hP hD hS hA [(2 + 2 * x1)] (by obtain rfl | rfl | rfl | rfl | rfl | rfl := k_lt6 hb1 <;> decide) (by obtain rfl | rfl | rfl | rfl | rfl | rfl := k_lt6 hb1 <;> rfl) (ci := 2) rfl rfl rfl rfl rfl hl.1 (Nat.le_of_ble_eq_true rfl) dX8_taken_41 ⟨Nat.zero_le _, Nat.zero_le _⟩ (fun hp7 H locs hP hS => ?_)
  refine lv_goto (tgt := 49) hx hb dX8_taken_44 (by decide) ?_
  have h9 := Option.some.inj h
  have e9 : x7 = r0 := congrArg (fun z9 => z9) h9
  rw [← e9]
  exact k_iret hx hb hr hlocks hP hS rfl dX8_taken_49

/-! X8_refusalOfN -/
set_option maxHeartbeats 4000000 in
set_option maxRecDepth 100000 in
theorem c_X8_refusalOfN (l : Launch) (G : va_G) (cI cJ cD cH : ClassId) (sz : Nat) (p1 : Int32) (r0 : Int32) (hF : F_X8_refusalOfN  = some r0) : Met l yX8_refusalOf wsX8_refusalOf ({ frames := 0, cells := 0, slots := 0, locals := 0 }) (k_pre G (k_T cI cJ cD cH) [] sz [.null, .int p1]) (va_Qi (fun r (_ : Unit) => r = r0 ∧ True) (fun _ t => va_P G vwCl [] t.heap) (va_A [] sz)) 0 0 (va_A [] sz) := by
  refine Met.ofW (cc := cX8_refusalOf) (maxL := 2) (ret := (some .int)) (by decide) rfl ?_
  intro p e s m args below meth c s₁ B hml hv
  obtain ⟨rfl, hsz, hP, hK, hD0⟩ := hv
  have hx := B.exec
  have hb := B.bytes
  have hr := B.returns
  have hts := atoms_spec (ws := wsX8_refusalOf) B.pre
  have hta : ∀ w ∈ wA, w.before ([.null, .int p1] : List Value).toArray s = true := hta_of hts
  have hown : s.vm.findClass RX8 = some m.cls := findClass_of_methodNamed B.named
  have hlocks := B.notSynchronized
  subst hsz
  have hD := hD0.self (sz := s.heap.size)
  generalize hAe : va_A [] s.heap.size = A at hD ⊢
  have hA : ∀ q : Nat, s.heap.size ≤ q → A q := fun q h => by rw [← hAe]; exact Or.inr h
  have hS : va_S A s.heap s.heap [] := va_S.rf
  have hl := lv_entry ([.null, .int p1]) (n := 2) (Nat.le_of_ble_eq_true rfl)
  rw [lg_entry_eq]
  generalize (lg_sl ([.null, .int p1]) ++ List.replicate (2 - (lg_sl ([.null, .int p1])).length) Slot.unset).toArray = ls at hl ⊢
  have hl : lv_has ls 2 [(0, .null), (1, .int p1)] := hl
  have h := hF
  unfold F_X8_refusalOfN at h
  refine lv_aload_nN hx hb dX8_refusalOf_0 rfl (lv_at hl 0 rfl) ?_
  refine lv_ifnonnullN hx hb dX8_refusalOf_1 ?_
  refine lv_iconst (v := (-1 : Int32)) hx hb dX8_refusalOf_4 (by decide) ?_
  have h9 := Option.some.inj h
  have e9 : (-1 : Int32) = r0 := congrArg (fun z9 => z9) h9
  rw [← e9]
  exact k_iret hx hb hr hlocks hP hS rfl dX8_refusalOf_5

/-! X8_refusalOf -/
set_option maxHeartbeats 4000000 in
set_option maxRecDepth 100000 in
theorem c_X8_refusalOf (l : Launch) (G : va_G) (cI cJ cD cH : ClassId) (sz : Nat) (h_p0 : Nat) (h_p0_ints : Nat) (p0_sort : Int32) (p0_tree : Int64) (p0_limit : Int32) (p0_above : Int64) (p0_size : Int32) (p1 : Int32) (r0 : Int32) (hF : F_X8_refusalOf p0_sort p1 = some r0) : Met l yX8_refusalOf wsX8_refusalOf ({ frames := 0, cells := 0, slots := 0, locals := 0 }) (k_pre G (k_T cI cJ cD cH) [(h_p0, .inr (2, [.int p0_sort, .long p0_tree, .int p0_limit, .ref h_p0_ints, .long p0_above, .int p0_size]))] sz [.ref h_p0, .int p1]) (va_Qi (fun r (_ : Unit) => r = r0 ∧ True) (fun _ t => va_P G vwCl [(h_p0, .inr (2, [.int p0_sort, .long p0_tree, .int p0_limit, .ref h_p0_ints, .long p0_above, .int p0_size]))] t.heap) (va_A [(h_p0, .inr (2, [.int p0_sort, .long p0_tree, .int p0_limit, .ref h_p0_ints, .long p0_above, .int p0_size]))] sz)) 0 0 (va_A [(h_p0, .inr (2, [.int p0_sort, .long p0_tree, .int p0_limit, .ref h_p0_ints, .long p0_above, .int p0_size]))] sz) := by
  refine Met.ofW (cc := cX8_refusalOf) (maxL := 2) (ret := (some .int)) (by decide) rfl ?_
  intro p e s m args below meth c s₁ B hml hv
  obtain ⟨rfl, hsz, hP, hK, hD0⟩ := hv
  have hx := B.exec
  have hb := B.bytes
  have hr := B.returns
  have hts := atoms_spec (ws := wsX8_refusalOf) B.pre
  have hta : ∀ w ∈ wA, w.before ([.ref h_p0, .int p1] : List Value).toArray s = true := hta_of hts
  have hown : s.vm.findClass RX8 = some m.cls := findClass_of_methodNamed B.named
  have hlocks := B.notSynchronized
  subst hsz
  have hD := hD0.self (sz := s.heap.size)
  generalize hAe : va_A [(h_p0, .inr (2, [.int p0_sort, .long p0_tree, .int p0_limit, .ref h_p0_ints, .long p0_above, .int p0_size]))] s.heap.size = A at hD ⊢
  have hA : ∀ q : Nat, s.heap.size ≤ q → A q := fun q h => by rw [← hAe]; exact Or.inr h
  have hS : va_S A s.heap s.heap [] := va_S.rf
  have hl := lv_entry ([.ref h_p0, .int p1]) (n := 2) (Nat.le_of_ble_eq_true rfl)
  rw [lg_entry_eq]
  generalize (lg_sl ([.ref h_p0, .int p1]) ++ List.replicate (2 - (lg_sl ([.ref h_p0, .int p1])).length) Slot.unset).toArray = ls at hl ⊢
  have hl : lv_has ls 2 [(0, .ref h_p0), (1, .int p1)] := hl
  have hinX2 : ∀ w ∈ wsX20, w ∈ wsX8_refusalOf := hin_of in_X2
  have h := hF
  unfold F_X8_refusalOf at h
  refine lv_aload_n hx hb dX8_refusalOf_0 rfl (lv_at hl 0 rfl) ?_
  refine lv_ifnonnull (tgt := 6) hx hb dX8_refusalOf_1 (by decide) ?_
  refine lv_aload_n hx hb dX8_refusalOf_6 rfl (lv_at hl 0 rfl) ?_
  refine va_get (D := G) (ci := 2) (v := .int p0_sort) (C := RX2) (T := TX2) (N := 6) hx hb hts hinX2 hown hK hP 0 rfl rfl 0 (by decide) (hta _ mw_572) (fun _ h9 => h9) rfl dX8_refusalOf_7 ?_
  refine lv_if_ne (tgt := 16) hx hb dX8_refusalOf_10 (by decide) (fun c1 => ?_) (fun c1 => ?_)
  rotate_left
  · have h := it_p h c1
    refine lv_bipush (v := (-11 : Int32)) hx hb dX8_refusalOf_13 (by decide) ?_
    have h9 := Option.some.inj h
    have e9 : (-11 : Int32) = r0 := congrArg (fun z9 => z9) h9
    rw [← e9]
    exact k_iret hx hb hr hlocks hP hS rfl dX8_refusalOf_15
  have h := it_n h c1
  refine lv_aload_n hx hb dX8_refusalOf_16 rfl (lv_at hl 0 rfl) ?_
  refine va_get (D := G) (ci := 2) (v := .int p0_sort) (C := RX2) (T := TX2) (N := 6) hx hb hts hinX2 hown hK hP 0 rfl rfl 0 (by decide) (hta _ mw_572) (fun _ h9 => h9) rfl dX8_refusalOf_17 ?_
  refine lv_iload_n hx hb dX8_refusalOf_20 rfl (lv_at hl 1 rfl) ?_
  refine lv_icmp_ne (tgt := 28) hx hb dX8_refusalOf_21 (by decide) (fun c2 => ?_) (fun c2 => ?_)
  · have h := it_n h c2
    refine lv_bipush (v := (-12 : Int32)) hx hb dX8_refusalOf_28 (by decide) ?_
    have h9 := Option.some.inj h
    have e9 : (-12 : Int32) = r0 := congrArg (fun z9 => z9) h9
    rw [← e9]
    exact k_iret hx hb hr hlocks hP hS rfl dX8_refusalOf_30
  have h := it_p h c2
  refine lv_iconst (v := (0 : Int32)) hx hb dX8_refusalOf_24 (by decide) ?_
  refine lv_goto (tgt := 30) hx hb dX8_refusalOf_25 (by decide) ?_
  have h9 := Option.some.inj h
  have e9 : (0 : Int32) = r0 := congrArg (fun z9 => z9) h9
  rw [← e9]
  exact k_iret hx hb hr hlocks hP hS rfl dX8_refusalOf_30

/-! X8_common -/
set_option maxHeartbeats 40000000 in
set_option maxRecDepth 100000 in
theorem c_X8_common (l : Launch) (G : va_G) (cI cJ cD cH : ClassId) (sz : Nat) (h_t : Nat) (h_t_holders : Nat) (h_t_desk : Nat) (h_t_imageDesk : Nat) (h_t_deeds : Nat) (h_t_numbers : Nat) (h_t_tape : Nat) (h_t_reader : Nat) (h_t_speller : Nat) (h_t_desk_powers : Nat) (d_t_holders : Nat → Nat) (q_t_holders : Nat → Nat) (a_t_holders : Nat → Nat → Int32) (t_holders_sort : Nat → Int32) (t_holders_tree : Nat → Int64) (t_holders_limit : Nat → Int32) (t_holders_above : Nat → Int64) (t_holders_size : Nat → Int32) (t_imageKept : Int32) (t_desk_genus : Int32) (t_desk_size : Int32) (t_desk_limit : Int32) (t_desk_tree : Int64) (p0 : Int32) (r0 : Int32) (hF : F_X8_common t_holders_sort t_holders_tree t_holders_limit t_desk_limit t_desk_tree p0 = some r0) : Met l yX8_common wsX8_common ({ frames := 2, cells := 0, slots := 0, locals := 42 }) (k_pre G (k_T cI cJ cD cH) [(h_t, .inr (7, [.ref h_t_desk, .ref h_t_imageDesk, .ref h_t_deeds, .ref h_t_numbers, .ref h_t_tape, .ref h_t_reader, .ref h_t_speller, .ref h_t_holders, .int t_imageKept])), (h_t_holders, .inl (cH, 6, .inr (.inr (.inr (.inr (fun i => some (d_t_holders i))))))), ((d_t_holders 0), .inr (2, [.int (t_holders_sort 0), .long (t_holders_tree 0), .int (t_holders_limit 0), .ref (q_t_holders 0), .long (t_holders_above 0), .int (t_holders_size 0)])), ((q_t_holders 0), .inl (cI, 20, .inl (a_t_holders 0))), ((d_t_holders 1), .inr (2, [.int (t_holders_sort 1), .long (t_holders_tree 1), .int (t_holders_limit 1), .ref (q_t_holders 1), .long (t_holders_above 1), .int (t_holders_size 1)])), ((q_t_holders 1), .inl (cI, 20, .inl (a_t_holders 1))), ((d_t_holders 2), .inr (2, [.int (t_holders_sort 2), .long (t_holders_tree 2), .int (t_holders_limit 2), .ref (q_t_holders 2), .long (t_holders_above 2), .int (t_holders_size 2)])), ((q_t_holders 2), .inl (cI, 20, .inl (a_t_holders 2))), ((d_t_holders 3), .inr (2, [.int (t_holders_sort 3), .long (t_holders_tree 3), .int (t_holders_limit 3), .ref (q_t_holders 3), .long (t_holders_above 3), .int (t_holders_size 3)])), ((q_t_holders 3), .inl (cI, 20, .inl (a_t_holders 3))), ((d_t_holders 4), .inr (2, [.int (t_holders_sort 4), .long (t_holders_tree 4), .int (t_holders_limit 4), .ref (q_t_holders 4), .long (t_holders_above 4), .int (t_holders_size 4)])), ((q_t_holders 4), .inl (cI, 20, .inl (a_t_holders 4))), ((d_t_holders 5), .inr (2, [.int (t_holders_sort 5), .long (t_holders_tree 5), .int (t_holders_limit 5), .ref (q_t_holders 5), .long (t_holders_above 5), .int (t_holders_size 5)])), ((q_t_holders 5), .inl (cI, 20, .inl (a_t_holders 5))), (h_t_desk, .inr (1, [.int t_desk_genus, .int t_desk_size, .ref h_t_desk_powers, .int t_desk_limit, .long t_desk_tree]))] sz [.ref h_t, .int p0]) (va_Qi (fun r (_ : Unit) => r = r0 ∧ True) (fun _ t => va_P G vwCl [(h_t, .inr (7, [.ref h_t_desk, .ref h_t_imageDesk, .ref h_t_deeds, .ref h_t_numbers, .ref h_t_tape, .ref h_t_reader, .ref h_t_speller, .ref h_t_holders, .int t_imageKept])), (h_t_holders, .inl (cH, 6, .inr (.inr (.inr (.inr (fun i => some (d_t_holders i))))))), ((d_t_holders 0), .inr (2, [.int (t_holders_sort 0), .long (t_holders_tree 0), .int (t_holders_limit 0), .ref (q_t_holders 0), .long (t_holders_above 0), .int (t_holders_size 0)])), ((q_t_holders 0), .inl (cI, 20, .inl (a_t_holders 0))), ((d_t_holders 1), .inr (2, [.int (t_holders_sort 1), .long (t_holders_tree 1), .int (t_holders_limit 1), .ref (q_t_holders 1), .long (t_holders_above 1), .int (t_holders_size 1)])), ((q_t_holders 1), .inl (cI, 20, .inl (a_t_holders 1))), ((d_t_holders 2), .inr (2, [.int (t_holders_sort 2), .long (t_holders_tree 2), .int (t_holders_limit 2), .ref (q_t_holders 2), .long (t_holders_above 2), .int (t_holders_size 2)])), ((q_t_holders 2), .inl (cI, 20, .inl (a_t_holders 2))), ((d_t_holders 3), .inr (2, [.int (t_holders_sort 3), .long (t_holders_tree 3), .int (t_holders_limit 3), .ref (q_t_holders 3), .long (t_holders_above 3), .int (t_holders_size 3)])), ((q_t_holders 3), .inl (cI, 20, .inl (a_t_holders 3))), ((d_t_holders 4), .inr (2, [.int (t_holders_sort 4), .long (t_holders_tree 4), .int (t_holders_limit 4), .ref (q_t_holders 4), .long (t_holders_above 4), .int (t_holders_size 4)])), ((q_t_holders 4), .inl (cI, 20, .inl (a_t_holders 4))), ((d_t_holders 5), .inr (2, [.int (t_holders_sort 5), .long (t_holders_tree 5), .int (t_holders_limit 5), .ref (q_t_holders 5), .long (t_holders_above 5), .int (t_holders_size 5)])), ((q_t_holders 5), .inl (cI, 20, .inl (a_t_holders 5))), (h_t_desk, .inr (1, [.int t_desk_genus, .int t_desk_size, .ref h_t_desk_powers, .int t_desk_limit, .long t_desk_tree]))] t.heap) (va_A [(h_t, .inr (7, [.ref h_t_desk, .ref h_t_imageDesk, .ref h_t_deeds, .ref h_t_numbers, .ref h_t_tape, .ref h_t_reader, .ref h_t_speller, .ref h_t_holders, .int t_imageKept])), (h_t_holders, .inl (cH, 6, .inr (.inr (.inr (.inr (fun i => some (d_t_holders i))))))), ((d_t_holders 0), .inr (2, [.int (t_holders_sort 0), .long (t_holders_tree 0), .int (t_holders_limit 0), .ref (q_t_holders 0), .long (t_holders_above 0), .int (t_holders_size 0)])), ((q_t_holders 0), .inl (cI, 20, .inl (a_t_holders 0))), ((d_t_holders 1), .inr (2, [.int (t_holders_sort 1), .long (t_holders_tree 1), .int (t_holders_limit 1), .ref (q_t_holders 1), .long (t_holders_above 1), .int (t_holders_size 1)])), ((q_t_holders 1), .inl (cI, 20, .inl (a_t_holders 1))), ((d_t_holders 2), .inr (2, [.int (t_holders_sort 2), .long (t_holders_tree 2), .int (t_holders_limit 2), .ref (q_t_holders 2), .long (t_holders_above 2), .int (t_holders_size 2)])), ((q_t_holders 2), .inl (cI, 20, .inl (a_t_holders 2))), ((d_t_holders 3), .inr (2, [.int (t_holders_sort 3), .long (t_holders_tree 3), .int (t_holders_limit 3), .ref (q_t_holders 3), .long (t_holders_above 3), .int (t_holders_size 3)])), ((q_t_holders 3), .inl (cI, 20, .inl (a_t_holders 3))), ((d_t_holders 4), .inr (2, [.int (t_holders_sort 4), .long (t_holders_tree 4), .int (t_holders_limit 4), .ref (q_t_holders 4), .long (t_holders_above 4), .int (t_holders_size 4)])), ((q_t_holders 4), .inl (cI, 20, .inl (a_t_holders 4))), ((d_t_holders 5), .inr (2, [.int (t_holders_sort 5), .long (t_holders_tree 5), .int (t_holders_limit 5), .ref (q_t_holders 5), .long (t_holders_above 5), .int (t_holders_size 5)])), ((q_t_holders 5), .inl (cI, 20, .inl (a_t_holders 5))), (h_t_desk, .inr (1, [.int t_desk_genus, .int t_desk_size, .ref h_t_desk_powers, .int t_desk_limit, .long t_desk_tree]))] sz)) 0 0 (va_A [(h_t, .inr (7, [.ref h_t_desk, .ref h_t_imageDesk, .ref h_t_deeds, .ref h_t_numbers, .ref h_t_tape, .ref h_t_reader, .ref h_t_speller, .ref h_t_holders, .int t_imageKept])), (h_t_holders, .inl (cH, 6, .inr (.inr (.inr (.inr (fun i => some (d_t_holders i))))))), ((d_t_holders 0), .inr (2, [.int (t_holders_sort 0), .long (t_holders_tree 0), .int (t_holders_limit 0), .ref (q_t_holders 0), .long (t_holders_above 0), .int (t_holders_size 0)])), ((q_t_holders 0), .inl (cI, 20, .inl (a_t_holders 0))), ((d_t_holders 1), .inr (2, [.int (t_holders_sort 1), .long (t_holders_tree 1), .int (t_holders_limit 1), .ref (q_t_holders 1), .long (t_holders_above 1), .int (t_holders_size 1)])), ((q_t_holders 1), .inl (cI, 20, .inl (a_t_holders 1))), ((d_t_holders 2), .inr (2, [.int (t_holders_sort 2), .long (t_holders_tree 2), .int (t_holders_limit 2), .ref (q_t_holders 2), .long (t_holders_above 2), .int (t_holders_size 2)])), ((q_t_holders 2), .inl (cI, 20, .inl (a_t_holders 2))), ((d_t_holders 3), .inr (2, [.int (t_holders_sort 3), .long (t_holders_tree 3), .int (t_holders_limit 3), .ref (q_t_holders 3), .long (t_holders_above 3), .int (t_holders_size 3)])), ((q_t_holders 3), .inl (cI, 20, .inl (a_t_holders 3))), ((d_t_holders 4), .inr (2, [.int (t_holders_sort 4), .long (t_holders_tree 4), .int (t_holders_limit 4), .ref (q_t_holders 4), .long (t_holders_above 4), .int (t_holders_size 4)])), ((q_t_holders 4), .inl (cI, 20, .inl (a_t_holders 4))), ((d_t_holders 5), .inr (2, [.int (t_holders_sort 5), .long (t_holders_tree 5), .int (t_holders_limit 5), .ref (q_t_holders 5), .long (t_holders_above 5), .int (t_holders_size 5)])), ((q_t_holders 5), .inl (cI, 20, .inl (a_t_holders 5))), (h_t_desk, .inr (1, [.int t_desk_genus, .int t_desk_size, .ref h_t_desk_powers, .int t_desk_limit, .long t_desk_tree]))] sz) := by
  refine Met.ofW (cc := cX8_common) (maxL := 4) (ret := (some .int)) (by decide) rfl ?_
  intro p e s m args below meth c s₁ B hml hv
  obtain ⟨rfl, hsz, hP, hK, hD0⟩ := hv
  have hx := B.exec
  have hb := B.bytes
  have hr := B.returns
  have hts := atoms_spec (ws := wsX8_common) B.pre
  have hta : ∀ w ∈ wA, w.before ([.ref h_t, .int p0] : List Value).toArray s = true := hta_of hts
  have hown : s.vm.findClass RX8 = some m.cls := findClass_of_methodNamed B.named
  have hlocks := B.notSynchronized
  subst hsz
  have hD := hD0.self (sz := s.heap.size)
  generalize hAe : va_A [(h_t, .inr (7, [.ref h_t_desk, .ref h_t_imageDesk, .ref h_t_deeds, .ref h_t_numbers, .ref h_t_tape, .ref h_t_reader, .ref h_t_speller, .ref h_t_holders, .int t_imageKept])), (h_t_holders, .inl (cH, 6, .inr (.inr (.inr (.inr (fun i => some (d_t_holders i))))))), ((d_t_holders 0), .inr (2, [.int (t_holders_sort 0), .long (t_holders_tree 0), .int (t_holders_limit 0), .ref (q_t_holders 0), .long (t_holders_above 0), .int (t_holders_size 0)])), ((q_t_holders 0), .inl (cI, 20, .inl (a_t_holders 0))), ((d_t_holders 1), .inr (2, [.int (t_holders_sort 1), .long (t_holders_tree 1), .int (t_holders_limit 1), .ref (q_t_holders 1), .long (t_holders_above 1), .int (t_holders_size 1)])), ((q_t_holders 1), .inl (cI, 20, .inl (a_t_holders 1))), ((d_t_holders 2), .inr (2, [.int (t_holders_sort 2), .long (t_holders_tree 2), .int (t_holders_limit 2), .ref (q_t_holders 2), .long (t_holders_above 2), .int (t_holders_size 2)])), ((q_t_holders 2), .inl (cI, 20, .inl (a_t_holders 2))), ((d_t_holders 3), .inr (2, [.int (t_holders_sort 3), .long (t_holders_tree 3), .int (t_holders_limit 3), .ref (q_t_holders 3), .long (t_holders_above 3), .int (t_holders_size 3)])), ((q_t_holders 3), .inl (cI, 20, .inl (a_t_holders 3))), ((d_t_holders 4), .inr (2, [.int (t_holders_sort 4), .long (t_holders_tree 4), .int (t_holders_limit 4), .ref (q_t_holders 4), .long (t_holders_above 4), .int (t_holders_size 4)])), ((q_t_holders 4), .inl (cI, 20, .inl (a_t_holders 4))), ((d_t_holders 5), .inr (2, [.int (t_holders_sort 5), .long (t_holders_tree 5), .int (t_holders_limit 5), .ref (q_t_holders 5), .long (t_holders_above 5), .int (t_holders_size 5)])), ((q_t_holders 5), .inl (cI, 20, .inl (a_t_holders 5))), (h_t_desk, .inr (1, [.int t_desk_genus, .int t_desk_size, .ref h_t_desk_powers, .int t_desk_limit, .long t_desk_tree]))] s.heap.size = A at hD ⊢
  have hA : ∀ q : Nat, s.heap.size ≤ q → A q := fun q h => by rw [← hAe]; exact Or.inr h
  have hS : va_S A s.heap s.heap [] := va_S.rf
  have hl := lv_entry ([.ref h_t, .int p0]) (n := 4) (Nat.le_of_ble_eq_true rfl)
  rw [lg_entry_eq]
  generalize (lg_sl ([.ref h_t, .int p0]) ++ List.replicate (4 - (lg_sl ([.ref h_t, .int p0])).length) Slot.unset).toArray = ls at hl ⊢
  have hl : lv_has ls 4 [(0, .ref h_t), (1, .int p0)] := hl
  have hinX1 : ∀ w ∈ wsX10, w ∈ wsX8_common := hin_of in_X1
  have hinX2 : ∀ w ∈ wsX20, w ∈ wsX8_common := hin_of in_X2
  have hinX8 : ∀ w ∈ wsX80, w ∈ wsX8_common := hin_of in_X8
  have h := hF
  unfold F_X8_common at h
  refine lv_aload_n hx hb dX8_common_0 rfl (lv_at hl 0 rfl) ?_
  refine lv_iload_n hx hb dX8_common_1 rfl (lv_at hl 1 rfl) ?_
  obtain ⟨x1, hx1, h⟩ := bd_e h
  try dsimp only at h
  have hc1 := k_lt_X8_holderAt hx1
  by_cases hd1 : x1 = 6
  · subst hd1
    refine k_VqU (n := 1) (As := [.int p0]) (rest := []) hx hb hml hown hts (c_X8_holderAt l G cI cJ cD cH s.heap.size h_t h_t_holders h_t_desk h_t_imageDesk h_t_deeds h_t_numbers h_t_tape h_t_reader h_t_speller d_t_holders q_t_holders a_t_holders t_holders_sort t_holders_tree t_holders_limit t_holders_above t_holders_size t_imageKept p0 6 hx1) gX8_common_X8_holderAt rfl rfl rfl (by decide +kernel) ⟨by first | exact Nat.le_of_ble_eq_true rfl | (simp only [headSpec]; omega), by first | exact Nat.le_of_ble_eq_true rfl | (simp only [headSpec]; omega)⟩ hK hP hD hS hA [0, 1, 2, 3, 4, 5, 6, 7, 8, 9, 10, 11, 12, 13] (by decide) rfl (ci := 7) rfl rfl rfl rfl rfl hl.1 (Nat.le_of_ble_eq_true rfl) dX8_common_2 ⟨Nat.zero_le _, Nat.zero_le _⟩ (fun hp1 H locs hP hS => ?_)
    refine W.eq (g2 := F0 m 5 ls [.null]) rfl ?_
    have h := it_p h rfl
    refine lv_astore_nN (lv' := [(2, .null), (0, .ref h_t), (1, .int p0)]) hx hb dX8_common_5 rfl hl (by decide) rfl (fun ls hl => ?_)
    refine lv_aload_nN hx hb dX8_common_6 rfl (lv_at hl 0 rfl) ?_
    refine lv_iconst (v := (2 : Int32)) hx hb dX8_common_7 (by decide) ?_
    obtain ⟨x6, hx6, h⟩ := bd_e h
    try dsimp only at h
    refine k_SiU (n := 2) (As := [.null, .int (2 : Int32)]) (rest := []) hx hb hml hown hts (c_X8_refusalOfN l G cI cJ cD cH H.size (2 : Int32) x6 hx6) gX8_common_X8_refusalOf rfl rfl rfl (by decide +kernel) ⟨by first | exact Nat.le_of_ble_eq_true rfl | (simp only [headSpec]; omega), by first | exact Nat.le_of_ble_eq_true rfl | (simp only [headSpec]; omega)⟩ hK hP hD hS hA [] (by decide) rfl rfl rfl hl.1 (Nat.le_of_ble_eq_true rfl) dX8_common_8 ⟨Nat.zero_le _, Nat.zero_le _⟩ (fun hp6 H locs hP hS => ?_)
    refine lv_istore_n (lv' := [(3, .int x6), (2, .null), (0, .ref h_t), (1, .int p0)]) hx hb dX8_common_11 rfl hl (by decide) rfl (fun ls hl => ?_)
    refine lv_aload_nN hx hb dX8_common_12 rfl (lv_at hl 1 rfl) ?_
    refine lv_ifnullN (tgt := 20) hx hb dX8_common_13 (by decide) ?_
    refine lv_iload_n hx hb dX8_common_20 rfl (lv_at hl 0 rfl) ?_
    have h9 := Option.some.inj h
    have e9 : x6 = r0 := congrArg (fun z9 => z9) h9
    rw [← e9]
    exact k_iret hx hb hr hlocks hP hS rfl dX8_common_21
  have hb1 : x1 < 6 := by omega
  refine k_VqU (n := 1) (As := [.int p0]) (rest := []) hx hb hml hown hts (c_X8_holderAt l G cI cJ cD cH s.heap.size h_t h_t_holders h_t_desk h_t_imageDesk h_t_deeds h_t_numbers h_t_tape h_t_reader h_t_speller d_t_holders q_t_holders a_t_holders t_holders_sort t_holders_tree t_holders_limit t_holders_above t_holders_size t_imageKept p0 x1 hx1) gX8_common_X8_holderAt rfl rfl rfl (by decide +kernel) ⟨by first | exact Nat.le_of_ble_eq_true rfl | (simp only [headSpec]; omega), by first | exact Nat.le_of_ble_eq_true rfl | (simp only [headSpec]; omega)⟩ hK hP hD hS hA [0, 1, 2, 3, 4, 5, 6, 7, 8, 9, 10, 11, 12, 13] (by decide) rfl (ci := 7) rfl rfl rfl rfl rfl hl.1 (Nat.le_of_ble_eq_true rfl) dX8_common_2 ⟨Nat.zero_le _, Nat.zero_le _⟩ (fun hp1 H locs hP hS => ?_)
  refine W.eq (g2 := F0 m 5 ls [.ref (d_t_holders x1)]) (by rw [if_neg hd1]; rfl) ?_
  have h := it_n h hd1
  refine lv_astore_n (lv' := [(2, .ref (d_t_holders x1)), (0, .ref h_t), (1, .int p0)]) hx hb dX8_common_5 rfl hl (by decide) rfl (fun ls hl => ?_)
  refine lv_aload_n hx hb dX8_common_6 rfl (lv_at hl 0 rfl) ?_
  refine lv_iconst (v := (2 : Int32)) hx hb dX8_common_7 (by decide) ?_
  obtain ⟨x2, hx2, h⟩ := bd_e h
  try dsimp only at h
  refine k_SiU (n := 2) (As := [.ref (d_t_holders x1), .int (2 : Int32)]) (rest := []) hx hb hml hown hts (c_X8_refusalOf l G cI cJ cD cH H.size (d_t_holders x1) (q_t_holders x1) (t_holders_sort x1) (t_holders_tree x1) (t_holders_limit x1) (t_holders_above x1) (t_holders_size x1) (2 : Int32) x2 hx2) gX8_common_X8_refusalOf rfl rfl rfl (by decide +kernel) ⟨by first | exact Nat.le_of_ble_eq_true rfl | (simp only [headSpec]; omega), by first | exact Nat.le_of_ble_eq_true rfl | (simp only [headSpec]; omega)⟩ hK hP hD hS hA [(2 + 2 * x1)] (by obtain rfl | rfl | rfl | rfl | rfl | rfl := k_lt6 hb1 <;> decide) (by obtain rfl | rfl | rfl | rfl | rfl | rfl := k_lt6 hb1 <;> rfl) rfl rfl hl.1 (Nat.le_of_ble_eq_true rfl) dX8_common_8 ⟨Nat.zero_le _, Nat.zero_le _⟩ (fun hp2 H locs hP hS => ?_)
  refine lv_istore_n (lv' := [(3, .int x2), (2, .ref (d_t_holders x1)), (0, .ref h_t), (1, .int p0)]) hx hb dX8_common_11 rfl hl (by decide) rfl (fun ls hl => ?_)
  refine lv_aload_n hx hb dX8_common_12 rfl (lv_at hl 1 rfl) ?_
  refine lv_ifnull hx hb dX8_common_13 ?_
  refine lv_iload_n hx hb dX8_common_16 rfl (lv_at hl 0 rfl) ?_
  refine lv_if_eq (tgt := 22) hx hb dX8_common_17 (by decide) (fun c3 => ?_) (fun c3 => ?_)
  rotate_left
  · have h := it_n h c3
    refine lv_iload_n hx hb dX8_common_20 rfl (lv_at hl 0 rfl) ?_
    have h9 := Option.some.inj h
    have e9 : x2 = r0 := congrArg (fun z9 => z9) h9
    rw [← e9]
    exact k_iret hx hb hr hlocks hP hS rfl dX8_common_21
  have h := it_p h c3
  refine lv_aload_n hx hb dX8_common_22 rfl (lv_at hl 1 rfl) ?_
  refine va_get (D := G) (fs := [.int (t_holders_sort x1), .long (t_holders_tree x1), .int (t_holders_limit x1), .ref (q_t_holders x1), .long (t_holders_above x1), .int (t_holders_size x1)]) (ci := 2) (v := .int (t_holders_limit x1)) (C := RX2) (T := TX2) (N := 6) hx hb hts hinX2 hown hK hP (2 + 2 * x1) (by obtain rfl | rfl | rfl | rfl | rfl | rfl := k_lt6 hb1 <;> rfl) rfl 2 (by decide) (hta _ mw_581) (fun _ h9 => h9) rfl dX8_common_23 ?_
  refine lv_aload_n hx hb dX8_common_26 rfl (lv_at hl 2 rfl) ?_
  refine va_get (D := G) (ci := 7) (v := .ref h_t_desk) (C := RX8) (T := TX8) (N := 9) hx hb hts hinX8 hown hK hP 0 rfl rfl 0 (by decide) (hta _ mw_358) (fun _ h9 => h9) rfl dX8_common_27 ?_
  refine va_get (D := G) (ci := 1) (v := .int t_desk_limit) (C := RX1) (T := TX1) (N := 5) hx hb hts hinX1 hown hK hP 14 rfl rfl 3 (by decide) (hta _ mw_479) (fun _ h9 => h9) rfl dX8_common_30 ?_
  refine lv_icmp_eq (tgt := 39) hx hb dX8_common_33 (by decide) (fun c4 => ?_) (fun c4 => ?_)
  rotate_left
  · have h := it_n h c4
    refine lv_bipush (v := (-5 : Int32)) hx hb dX8_common_36 (by decide) ?_
    have h9 := Option.some.inj h
    have e9 : (-5 : Int32) = r0 := congrArg (fun z9 => z9) h9
    rw [← e9]
    exact k_iret hx hb hr hlocks hP hS rfl dX8_common_38
  have h := it_p h c4
  refine lv_aload_n hx hb dX8_common_39 rfl (lv_at hl 1 rfl) ?_
  refine va_get (D := G) (fs := [.int (t_holders_sort x1), .long (t_holders_tree x1), .int (t_holders_limit x1), .ref (q_t_holders x1), .long (t_holders_above x1), .int (t_holders_size x1)]) (ci := 2) (v := .long (t_holders_tree x1)) (C := RX2) (T := TX2) (N := 6) hx hb hts hinX2 hown hK hP (2 + 2 * x1) (by obtain rfl | rfl | rfl | rfl | rfl | rfl := k_lt6 hb1 <;> rfl) rfl 1 (by decide) (hta _ mw_582) (fun _ h9 => h9) rfl dX8_common_40 ?_
  refine lv_aload_n hx hb dX8_common_43 rfl (lv_at hl 2 rfl) ?_
  refine va_get (D := G) (ci := 7) (v := .ref h_t_desk) (C := RX8) (T := TX8) (N := 9) hx hb hts hinX8 hown hK hP 0 rfl rfl 0 (by decide) (hta _ mw_358) (fun _ h9 => h9) rfl dX8_common_44 ?_
  refine va_get (D := G) (ci := 1) (v := .long t_desk_tree) (C := RX1) (T := TX1) (N := 5) hx hb hts hinX1 hown hK hP 14 rfl rfl 4 (by decide) (hta _ mw_480) (fun _ h9 => h9) rfl dX8_common_47 ?_
  refine lv_land hx hb dX8_common_50 ?_
  obtain ⟨x5, hx5, h⟩ := bd_e h
  try dsimp only at h
  refine k_SiU (n := 1) (As := [.long ((t_holders_tree x1) &&& t_desk_tree)]) (rest := []) hx hb hml hown hts (c_X6_sizeOf l G cI cJ cD cH H.size ((t_holders_tree x1) &&& t_desk_tree) x5 hx5) gX8_common_X6_sizeOf rfl rfl rfl (by decide +kernel) ⟨by first | exact Nat.le_of_ble_eq_true rfl | (simp only [headSpec]; omega), by first | exact Nat.le_of_ble_eq_true rfl | (simp only [headSpec]; omega)⟩ hK hP hD hS hA [] (by decide) rfl rfl rfl hl.1 (Nat.le_of_ble_eq_true rfl) dX8_common_51 ⟨Nat.zero_le _, Nat.zero_le _⟩ (fun hp5 H locs hP hS => ?_)
  have h9 := Option.some.inj h
  have e9 : x5 = r0 := congrArg (fun z9 => z9) h9
  rw [← e9]
  exact k_iret hx hb hr hlocks hP hS rfl dX8_common_54

/-! X8_row -/
set_option maxHeartbeats 40000000 in
set_option maxRecDepth 100000 in
theorem c_X8_row (l : Launch) (G : va_G) (cI cJ cD cH : ClassId) (sz : Nat) (h_t : Nat) (h_t_holders : Nat) (h_t_desk : Nat) (h_t_imageDesk : Nat) (h_t_deeds : Nat) (h_t_numbers : Nat) (h_t_tape : Nat) (h_t_reader : Nat) (h_t_speller : Nat) (d_t_holders : Nat → Nat) (q_t_holders : Nat → Nat) (a_t_holders : Nat → Nat → Int32) (t_holders_sort : Nat → Int32) (t_holders_tree : Nat → Int64) (t_holders_limit : Nat → Int32) (t_holders_above : Nat → Int64) (t_holders_size : Nat → Int32) (t_imageKept : Int32) (p0 : Int32) (p1 : Int32) (r0 : Int32) (w0 : Nat → Nat → Int32) (w1 : Nat → Int32) (w2 : Nat → Int32) (hF : F_X8_row a_t_holders t_holders_sort t_holders_size p0 p1 = some (r0, w0, w1, w2)) : Met l yX8_row wsX8_row ({ frames := 1, cells := 0, slots := 0, locals := 22 }) (k_pre G (k_T cI cJ cD cH) [(h_t, .inr (7, [.ref h_t_desk, .ref h_t_imageDesk, .ref h_t_deeds, .ref h_t_numbers, .ref h_t_tape, .ref h_t_reader, .ref h_t_speller, .ref h_t_holders, .int t_imageKept])), (h_t_holders, .inl (cH, 6, .inr (.inr (.inr (.inr (fun i => some (d_t_holders i))))))), ((d_t_holders 0), .inr (2, [.int (t_holders_sort 0), .long (t_holders_tree 0), .int (t_holders_limit 0), .ref (q_t_holders 0), .long (t_holders_above 0), .int (t_holders_size 0)])), ((q_t_holders 0), .inl (cI, 20, .inl (a_t_holders 0))), ((d_t_holders 1), .inr (2, [.int (t_holders_sort 1), .long (t_holders_tree 1), .int (t_holders_limit 1), .ref (q_t_holders 1), .long (t_holders_above 1), .int (t_holders_size 1)])), ((q_t_holders 1), .inl (cI, 20, .inl (a_t_holders 1))), ((d_t_holders 2), .inr (2, [.int (t_holders_sort 2), .long (t_holders_tree 2), .int (t_holders_limit 2), .ref (q_t_holders 2), .long (t_holders_above 2), .int (t_holders_size 2)])), ((q_t_holders 2), .inl (cI, 20, .inl (a_t_holders 2))), ((d_t_holders 3), .inr (2, [.int (t_holders_sort 3), .long (t_holders_tree 3), .int (t_holders_limit 3), .ref (q_t_holders 3), .long (t_holders_above 3), .int (t_holders_size 3)])), ((q_t_holders 3), .inl (cI, 20, .inl (a_t_holders 3))), ((d_t_holders 4), .inr (2, [.int (t_holders_sort 4), .long (t_holders_tree 4), .int (t_holders_limit 4), .ref (q_t_holders 4), .long (t_holders_above 4), .int (t_holders_size 4)])), ((q_t_holders 4), .inl (cI, 20, .inl (a_t_holders 4))), ((d_t_holders 5), .inr (2, [.int (t_holders_sort 5), .long (t_holders_tree 5), .int (t_holders_limit 5), .ref (q_t_holders 5), .long (t_holders_above 5), .int (t_holders_size 5)])), ((q_t_holders 5), .inl (cI, 20, .inl (a_t_holders 5)))] sz [.ref h_t, .int p0, .int p1]) (va_Qi (fun r (_ : Unit) => r = r0 ∧ True) (fun _ t => va_P G vwCl [(h_t, .inr (7, [.ref h_t_desk, .ref h_t_imageDesk, .ref h_t_deeds, .ref h_t_numbers, .ref h_t_tape, .ref h_t_reader, .ref h_t_speller, .ref h_t_holders, .int t_imageKept])), (h_t_holders, .inl (cH, 6, .inr (.inr (.inr (.inr (fun i => some (d_t_holders i))))))), ((d_t_holders 0), .inr (2, [.int (w2 0), .long (t_holders_tree 0), .int (t_holders_limit 0), .ref (q_t_holders 0), .long (t_holders_above 0), .int (w1 0)])), ((q_t_holders 0), .inl (cI, 20, .inl (w0 0))), ((d_t_holders 1), .inr (2, [.int (w2 1), .long (t_holders_tree 1), .int (t_holders_limit 1), .ref (q_t_holders 1), .long (t_holders_above 1), .int (w1 1)])), ((q_t_holders 1), .inl (cI, 20, .inl (w0 1))), ((d_t_holders 2), .inr (2, [.int (w2 2), .long (t_holders_tree 2), .int (t_holders_limit 2), .ref (q_t_holders 2), .long (t_holders_above 2), .int (w1 2)])), ((q_t_holders 2), .inl (cI, 20, .inl (w0 2))), ((d_t_holders 3), .inr (2, [.int (w2 3), .long (t_holders_tree 3), .int (t_holders_limit 3), .ref (q_t_holders 3), .long (t_holders_above 3), .int (w1 3)])), ((q_t_holders 3), .inl (cI, 20, .inl (w0 3))), ((d_t_holders 4), .inr (2, [.int (w2 4), .long (t_holders_tree 4), .int (t_holders_limit 4), .ref (q_t_holders 4), .long (t_holders_above 4), .int (w1 4)])), ((q_t_holders 4), .inl (cI, 20, .inl (w0 4))), ((d_t_holders 5), .inr (2, [.int (w2 5), .long (t_holders_tree 5), .int (t_holders_limit 5), .ref (q_t_holders 5), .long (t_holders_above 5), .int (w1 5)])), ((q_t_holders 5), .inl (cI, 20, .inl (w0 5)))] t.heap) (va_A [(h_t, .inr (7, [.ref h_t_desk, .ref h_t_imageDesk, .ref h_t_deeds, .ref h_t_numbers, .ref h_t_tape, .ref h_t_reader, .ref h_t_speller, .ref h_t_holders, .int t_imageKept])), (h_t_holders, .inl (cH, 6, .inr (.inr (.inr (.inr (fun i => some (d_t_holders i))))))), ((d_t_holders 0), .inr (2, [.int (t_holders_sort 0), .long (t_holders_tree 0), .int (t_holders_limit 0), .ref (q_t_holders 0), .long (t_holders_above 0), .int (t_holders_size 0)])), ((q_t_holders 0), .inl (cI, 20, .inl (a_t_holders 0))), ((d_t_holders 1), .inr (2, [.int (t_holders_sort 1), .long (t_holders_tree 1), .int (t_holders_limit 1), .ref (q_t_holders 1), .long (t_holders_above 1), .int (t_holders_size 1)])), ((q_t_holders 1), .inl (cI, 20, .inl (a_t_holders 1))), ((d_t_holders 2), .inr (2, [.int (t_holders_sort 2), .long (t_holders_tree 2), .int (t_holders_limit 2), .ref (q_t_holders 2), .long (t_holders_above 2), .int (t_holders_size 2)])), ((q_t_holders 2), .inl (cI, 20, .inl (a_t_holders 2))), ((d_t_holders 3), .inr (2, [.int (t_holders_sort 3), .long (t_holders_tree 3), .int (t_holders_limit 3), .ref (q_t_holders 3), .long (t_holders_above 3), .int (t_holders_size 3)])), ((q_t_holders 3), .inl (cI, 20, .inl (a_t_holders 3))), ((d_t_holders 4), .inr (2, [.int (t_holders_sort 4), .long (t_holders_tree 4), .int (t_holders_limit 4), .ref (q_t_holders 4), .long (t_holders_above 4), .int (t_holders_size 4)])), ((q_t_holders 4), .inl (cI, 20, .inl (a_t_holders 4))), ((d_t_holders 5), .inr (2, [.int (t_holders_sort 5), .long (t_holders_tree 5), .int (t_holders_limit 5), .ref (q_t_holders 5), .long (t_holders_above 5), .int (t_holders_size 5)])), ((q_t_holders 5), .inl (cI, 20, .inl (a_t_holders 5)))] sz)) 0 0 (va_A [(h_t, .inr (7, [.ref h_t_desk, .ref h_t_imageDesk, .ref h_t_deeds, .ref h_t_numbers, .ref h_t_tape, .ref h_t_reader, .ref h_t_speller, .ref h_t_holders, .int t_imageKept])), (h_t_holders, .inl (cH, 6, .inr (.inr (.inr (.inr (fun i => some (d_t_holders i))))))), ((d_t_holders 0), .inr (2, [.int (t_holders_sort 0), .long (t_holders_tree 0), .int (t_holders_limit 0), .ref (q_t_holders 0), .long (t_holders_above 0), .int (t_holders_size 0)])), ((q_t_holders 0), .inl (cI, 20, .inl (a_t_holders 0))), ((d_t_holders 1), .inr (2, [.int (t_holders_sort 1), .long (t_holders_tree 1), .int (t_holders_limit 1), .ref (q_t_holders 1), .long (t_holders_above 1), .int (t_holders_size 1)])), ((q_t_holders 1), .inl (cI, 20, .inl (a_t_holders 1))), ((d_t_holders 2), .inr (2, [.int (t_holders_sort 2), .long (t_holders_tree 2), .int (t_holders_limit 2), .ref (q_t_holders 2), .long (t_holders_above 2), .int (t_holders_size 2)])), ((q_t_holders 2), .inl (cI, 20, .inl (a_t_holders 2))), ((d_t_holders 3), .inr (2, [.int (t_holders_sort 3), .long (t_holders_tree 3), .int (t_holders_limit 3), .ref (q_t_holders 3), .long (t_holders_above 3), .int (t_holders_size 3)])), ((q_t_holders 3), .inl (cI, 20, .inl (a_t_holders 3))), ((d_t_holders 4), .inr (2, [.int (t_holders_sort 4), .long (t_holders_tree 4), .int (t_holders_limit 4), .ref (q_t_holders 4), .long (t_holders_above 4), .int (t_holders_size 4)])), ((q_t_holders 4), .inl (cI, 20, .inl (a_t_holders 4))), ((d_t_holders 5), .inr (2, [.int (t_holders_sort 5), .long (t_holders_tree 5), .int (t_holders_limit 5), .ref (q_t_holders 5), .long (t_holders_above 5), .int (t_holders_size 5)])), ((q_t_holders 5), .inl (cI, 20, .inl (a_t_holders 5)))] sz) := by
  refine Met.ofW (cc := cX8_row) (maxL := 4) (ret := (some .int)) (by decide) rfl ?_
  intro p e s m args below meth c s₁ B hml hv
  obtain ⟨rfl, hsz, hP, hK, hD0⟩ := hv
  have hx := B.exec
  have hb := B.bytes
  have hr := B.returns
  have hts := atoms_spec (ws := wsX8_row) B.pre
  have hta : ∀ w ∈ wA, w.before ([.ref h_t, .int p0, .int p1] : List Value).toArray s = true := hta_of hts
  have hown : s.vm.findClass RX8 = some m.cls := findClass_of_methodNamed B.named
  have hlocks := B.notSynchronized
  subst hsz
  have hD := hD0.self (sz := s.heap.size)
  generalize hAe : va_A [(h_t, .inr (7, [.ref h_t_desk, .ref h_t_imageDesk, .ref h_t_deeds, .ref h_t_numbers, .ref h_t_tape, .ref h_t_reader, .ref h_t_speller, .ref h_t_holders, .int t_imageKept])), (h_t_holders, .inl (cH, 6, .inr (.inr (.inr (.inr (fun i => some (d_t_holders i))))))), ((d_t_holders 0), .inr (2, [.int (t_holders_sort 0), .long (t_holders_tree 0), .int (t_holders_limit 0), .ref (q_t_holders 0), .long (t_holders_above 0), .int (t_holders_size 0)])), ((q_t_holders 0), .inl (cI, 20, .inl (a_t_holders 0))), ((d_t_holders 1), .inr (2, [.int (t_holders_sort 1), .long (t_holders_tree 1), .int (t_holders_limit 1), .ref (q_t_holders 1), .long (t_holders_above 1), .int (t_holders_size 1)])), ((q_t_holders 1), .inl (cI, 20, .inl (a_t_holders 1))), ((d_t_holders 2), .inr (2, [.int (t_holders_sort 2), .long (t_holders_tree 2), .int (t_holders_limit 2), .ref (q_t_holders 2), .long (t_holders_above 2), .int (t_holders_size 2)])), ((q_t_holders 2), .inl (cI, 20, .inl (a_t_holders 2))), ((d_t_holders 3), .inr (2, [.int (t_holders_sort 3), .long (t_holders_tree 3), .int (t_holders_limit 3), .ref (q_t_holders 3), .long (t_holders_above 3), .int (t_holders_size 3)])), ((q_t_holders 3), .inl (cI, 20, .inl (a_t_holders 3))), ((d_t_holders 4), .inr (2, [.int (t_holders_sort 4), .long (t_holders_tree 4), .int (t_holders_limit 4), .ref (q_t_holders 4), .long (t_holders_above 4), .int (t_holders_size 4)])), ((q_t_holders 4), .inl (cI, 20, .inl (a_t_holders 4))), ((d_t_holders 5), .inr (2, [.int (t_holders_sort 5), .long (t_holders_tree 5), .int (t_holders_limit 5), .ref (q_t_holders 5), .long (t_holders_above 5), .int (t_holders_size 5)])), ((q_t_holders 5), .inl (cI, 20, .inl (a_t_holders 5)))] s.heap.size = A at hD ⊢
  have hA : ∀ q : Nat, s.heap.size ≤ q → A q := fun q h => by rw [← hAe]; exact Or.inr h
  have hS : va_S A s.heap s.heap [] := va_S.rf
  have hl := lv_entry ([.ref h_t, .int p0, .int p1]) (n := 4) (Nat.le_of_ble_eq_true rfl)
  rw [lg_entry_eq]
  generalize (lg_sl ([.ref h_t, .int p0, .int p1]) ++ List.replicate (4 - (lg_sl ([.ref h_t, .int p0, .int p1])).length) Slot.unset).toArray = ls at hl ⊢
  have hl : lv_has ls 4 [(0, .ref h_t), (1, .int p0), (2, .int p1)] := hl
  have h := hF
  unfold F_X8_row at h
  refine lv_aload_n hx hb dX8_row_0 rfl (lv_at hl 0 rfl) ?_
  refine lv_iload_n hx hb dX8_row_1 rfl (lv_at hl 1 rfl) ?_
  obtain ⟨x1, hx1, h⟩ := bd_e h
  try dsimp only at h
  have hc1 := k_lt_X8_holderAt hx1
  by_cases hd1 : x1 = 6
  · subst hd1
    refine k_VqU (n := 1) (As := [.int p0]) (rest := []) hx hb hml hown hts (c_X8_holderAt l G cI cJ cD cH s.heap.size h_t h_t_holders h_t_desk h_t_imageDesk h_t_deeds h_t_numbers h_t_tape h_t_reader h_t_speller d_t_holders q_t_holders a_t_holders t_holders_sort t_holders_tree t_holders_limit t_holders_above t_holders_size t_imageKept p0 6 hx1) gX8_row_X8_holderAt rfl rfl rfl (by decide +kernel) ⟨by first | exact Nat.le_of_ble_eq_true rfl | (simp only [headSpec]; omega), by first | exact Nat.le_of_ble_eq_true rfl | (simp only [headSpec]; omega)⟩ hK hP hD hS hA [0, 1, 2, 3, 4, 5, 6, 7, 8, 9, 10, 11, 12, 13] (by decide) rfl (ci := 7) rfl rfl rfl rfl rfl hl.1 (Nat.le_of_ble_eq_true rfl) dX8_row_2 ⟨Nat.zero_le _, Nat.zero_le _⟩ (fun hp1 H locs hP hS => ?_)
    refine W.eq (g2 := F0 m 5 ls [.null]) rfl ?_
    have h := it_p h rfl
    refine lv_astore_nN (lv' := [(3, .null), (0, .ref h_t), (1, .int p0), (2, .int p1)]) hx hb dX8_row_5 rfl hl (by decide) rfl (fun ls hl => ?_)
    refine lv_aload_nN hx hb dX8_row_6 rfl (lv_at hl 0 rfl) ?_
    refine lv_ifnullN (tgt := 16) hx hb dX8_row_7 (by decide) ?_
    refine lv_iconst (v := (-1 : Int32)) hx hb dX8_row_16 (by decide) ?_
    have h9 := Option.some.inj h
    have e9 : (-1 : Int32) = r0 := congrArg (fun z9 => z9.1) h9
    rw [← e9]
    have e9 : a_t_holders = w0 := congrArg (fun z9 => z9.2.1) h9
    rw [← e9]
    have e9 : t_holders_size = w1 := congrArg (fun z9 => z9.2.2.1) h9
    rw [← e9]
    have e9 : t_holders_sort = w2 := congrArg (fun z9 => z9.2.2.2) h9
    rw [← e9]
    exact k_iret hx hb hr hlocks hP hS rfl dX8_row_17
  have hb1 : x1 < 6 := by omega
  refine k_VqU (n := 1) (As := [.int p0]) (rest := []) hx hb hml hown hts (c_X8_holderAt l G cI cJ cD cH s.heap.size h_t h_t_holders h_t_desk h_t_imageDesk h_t_deeds h_t_numbers h_t_tape h_t_reader h_t_speller d_t_holders q_t_holders a_t_holders t_holders_sort t_holders_tree t_holders_limit t_holders_above t_holders_size t_imageKept p0 x1 hx1) gX8_row_X8_holderAt rfl rfl rfl (by decide +kernel) ⟨by first | exact Nat.le_of_ble_eq_true rfl | (simp only [headSpec]; omega), by first | exact Nat.le_of_ble_eq_true rfl | (simp only [headSpec]; omega)⟩ hK hP hD hS hA [0, 1, 2, 3, 4, 5, 6, 7, 8, 9, 10, 11, 12, 13] (by decide) rfl (ci := 7) rfl rfl rfl rfl rfl hl.1 (Nat.le_of_ble_eq_true rfl) dX8_row_2 ⟨Nat.zero_le _, Nat.zero_le _⟩ (fun hp1 H locs hP hS => ?_)
  refine W.eq (g2 := F0 m 5 ls [.ref (d_t_holders x1)]) (by rw [if_neg hd1]; rfl) ?_
  have h := it_n h hd1
  refine lv_astore_n (lv' := [(3, .ref (d_t_holders x1)), (0, .ref h_t), (1, .int p0), (2, .int p1)]) hx hb dX8_row_5 rfl hl (by decide) rfl (fun ls hl => ?_)
  refine lv_aload_n hx hb dX8_row_6 rfl (lv_at hl 0 rfl) ?_
  refine lv_ifnull hx hb dX8_row_7 ?_
  refine lv_iload_n hx hb dX8_row_10 rfl (lv_at hl 3 rfl) ?_
  refine lv_bipush (v := (20 : Int32)) hx hb dX8_row_11 (by decide) ?_
  refine lv_icmp_le (tgt := 18) hx hb dX8_row_13 (by decide) (fun c2 => ?_) (fun c2 => ?_)
  rotate_left
  · have h := it_n h c2
    refine lv_iconst (v := (-1 : Int32)) hx hb dX8_row_16 (by decide) ?_
    have h9 := Option.some.inj h
    have e9 : (-1 : Int32) = r0 := congrArg (fun z9 => z9.1) h9
    rw [← e9]
    have e9 : a_t_holders = w0 := congrArg (fun z9 => z9.2.1) h9
    rw [← e9]
    have e9 : t_holders_size = w1 := congrArg (fun z9 => z9.2.2.1) h9
    rw [← e9]
    have e9 : t_holders_sort = w2 := congrArg (fun z9 => z9.2.2.2) h9
    rw [← e9]
    exact k_iret hx hb hr hlocks hP hS rfl dX8_row_17
  have h := it_p h c2
  refine lv_iload_n hx hb dX8_row_18 rfl (lv_at hl 3 rfl) ?_
  refine lv_if_ge (tgt := 25) hx hb dX8_row_19 (by decide) (fun c3 => ?_) (fun c3 => ?_)
  rotate_left
  · have h := it_n h c3
    refine lv_bipush (v := (-14 : Int32)) hx hb dX8_row_22 (by decide) ?_
    have h9 := Option.some.inj h
    have e9 : (-14 : Int32) = r0 := congrArg (fun z9 => z9.1) h9
    rw [← e9]
    have e9 : a_t_holders = w0 := congrArg (fun z9 => z9.2.1) h9
    rw [← e9]
    have e9 : t_holders_size = w1 := congrArg (fun z9 => z9.2.2.1) h9
    rw [← e9]
    have e9 : t_holders_sort = w2 := congrArg (fun z9 => z9.2.2.2) h9
    rw [← e9]
    exact k_iret hx hb hr hlocks hP hS rfl dX8_row_24
  have h := it_p h c3
  refine lv_aload_n hx hb dX8_row_25 rfl (lv_at hl 0 rfl) ?_
  refine lv_iload_n hx hb dX8_row_26 rfl (lv_at hl 3 rfl) ?_
  obtain ⟨x4, hx4, h⟩ := bd_e h
  try dsimp only at h
  refine k_VvR (n := 1) (As := [.int p1]) (rest := []) hx hb hml hown hts (c_X2_holdRow l G cI cJ cD cH H.size (d_t_holders x1) (q_t_holders x1) (t_holders_sort x1) (t_holders_tree x1) (t_holders_limit x1) (t_holders_above x1) (t_holders_size x1) (a_t_holders x1) p1 (x4.1) (x4.2.1) (x4.2.2) hx4) gX8_row_X2_holdRow rfl rfl rfl (by decide +kernel) ⟨by first | exact Nat.le_of_ble_eq_true rfl | (simp only [headSpec]; omega), by first | exact Nat.le_of_ble_eq_true rfl | (simp only [headSpec]; omega)⟩ hK hP hD hS hA [(2 + 2 * x1), (3 + 2 * x1)] (by obtain rfl | rfl | rfl | rfl | rfl | rfl := k_lt6 hb1 <;> decide) (by obtain rfl | rfl | rfl | rfl | rfl | rfl := k_lt6 hb1 <;> rfl) rfl (ci := 2) rfl rfl rfl rfl rfl hl.1 (Nat.le_of_ble_eq_true rfl) dX8_row_27 ⟨Nat.zero_le _, Nat.zero_le _⟩ [(h_t, .inr (7, [.ref h_t_desk, .ref h_t_imageDesk, .ref h_t_deeds, .ref h_t_numbers, .ref h_t_tape, .ref h_t_reader, .ref h_t_speller, .ref h_t_holders, .int t_imageKept])), (h_t_holders, .inl (cH, 6, .inr (.inr (.inr (.inr (fun i => some (d_t_holders i))))))), ((d_t_holders 0), .inr (2, [.int ((va_up t_holders_sort x1 (x4.2.1)) 0), .long (t_holders_tree 0), .int (t_holders_limit 0), .ref (q_t_holders 0), .long (t_holders_above 0), .int ((va_up t_holders_size x1 (x4.2.2)) 0)])), ((q_t_holders 0), .inl (cI, 20, .inl ((va_up a_t_holders x1 (x4.1)) 0))), ((d_t_holders 1), .inr (2, [.int ((va_up t_holders_sort x1 (x4.2.1)) 1), .long (t_holders_tree 1), .int (t_holders_limit 1), .ref (q_t_holders 1), .long (t_holders_above 1), .int ((va_up t_holders_size x1 (x4.2.2)) 1)])), ((q_t_holders 1), .inl (cI, 20, .inl ((va_up a_t_holders x1 (x4.1)) 1))), ((d_t_holders 2), .inr (2, [.int ((va_up t_holders_sort x1 (x4.2.1)) 2), .long (t_holders_tree 2), .int (t_holders_limit 2), .ref (q_t_holders 2), .long (t_holders_above 2), .int ((va_up t_holders_size x1 (x4.2.2)) 2)])), ((q_t_holders 2), .inl (cI, 20, .inl ((va_up a_t_holders x1 (x4.1)) 2))), ((d_t_holders 3), .inr (2, [.int ((va_up t_holders_sort x1 (x4.2.1)) 3), .long (t_holders_tree 3), .int (t_holders_limit 3), .ref (q_t_holders 3), .long (t_holders_above 3), .int ((va_up t_holders_size x1 (x4.2.2)) 3)])), ((q_t_holders 3), .inl (cI, 20, .inl ((va_up a_t_holders x1 (x4.1)) 3))), ((d_t_holders 4), .inr (2, [.int ((va_up t_holders_sort x1 (x4.2.1)) 4), .long (t_holders_tree 4), .int (t_holders_limit 4), .ref (q_t_holders 4), .long (t_holders_above 4), .int ((va_up t_holders_size x1 (x4.2.2)) 4)])), ((q_t_holders 4), .inl (cI, 20, .inl ((va_up a_t_holders x1 (x4.1)) 4))), ((d_t_holders 5), .inr (2, [.int ((va_up t_holders_sort x1 (x4.2.1)) 5), .long (t_holders_tree 5), .int (t_holders_limit 5), .ref (q_t_holders 5), .long (t_holders_above 5), .int ((va_up t_holders_size x1 (x4.2.2)) 5)])), ((q_t_holders 5), .inl (cI, 20, .inl ((va_up a_t_holders x1 (x4.1)) 5)))] (by obtain rfl | rfl | rfl | rfl | rfl | rfl := k_lt6 hb1 <;> rfl) (by obtain rfl | rfl | rfl | rfl | rfl | rfl := k_lt6 hb1 <;> rfl) (fun hp4 H locs hP hD hS => ?_)
  refine lv_iload_n hx hb dX8_row_30 rfl (lv_at hl 3 rfl) ?_
  have h9 := Option.some.inj h
  have e9 : p1 = r0 := congrArg (fun z9 => z9.1) h9
  rw [← e9]
  have e9 : (va_up a_t_holders x1 (x4.1)) = w0 := congrArg (fun z9 => z9.2.1) h9
  rw [← e9]
  have e9 : (va_up t_holders_size x1 (x4.2.2)) = w1 := congrArg (fun z9 => z9.2.2.1) h9
  rw [← e9]
  have e9 : (va_up t_holders_sort x1 (x4.2.1)) = w2 := congrArg (fun z9 => z9.2.2.2) h9
  rw [← e9]
  exact k_iret hx hb hr hlocks hP hS rfl dX8_row_31

/-! X8_set -/
set_option maxHeartbeats 40000000 in
set_option maxRecDepth 100000 in
theorem c_X8_set (l : Launch) (G : va_G) (cI cJ cD cH : ClassId) (sz : Nat) (h_t : Nat) (h_t_holders : Nat) (h_t_desk : Nat) (h_t_imageDesk : Nat) (h_t_deeds : Nat) (h_t_numbers : Nat) (h_t_tape : Nat) (h_t_reader : Nat) (h_t_speller : Nat) (d_t_holders : Nat → Nat) (q_t_holders : Nat → Nat) (a_t_holders : Nat → Nat → Int32) (t_holders_sort : Nat → Int32) (t_holders_tree : Nat → Int64) (t_holders_limit : Nat → Int32) (t_holders_above : Nat → Int64) (t_holders_size : Nat → Int32) (t_imageKept : Int32) (p0 : Int32) (p1 : Int32) (p2 : Int32) (r0 : Int32) (w0 : Nat → Nat → Int32) (hF : F_X8_set a_t_holders t_holders_sort t_holders_size p0 p1 p2 = some (r0, w0)) : Met l yX8_set wsX8_set ({ frames := 1, cells := 0, slots := 0, locals := 21 }) (k_pre G (k_T cI cJ cD cH) [(h_t, .inr (7, [.ref h_t_desk, .ref h_t_imageDesk, .ref h_t_deeds, .ref h_t_numbers, .ref h_t_tape, .ref h_t_reader, .ref h_t_speller, .ref h_t_holders, .int t_imageKept])), (h_t_holders, .inl (cH, 6, .inr (.inr (.inr (.inr (fun i => some (d_t_holders i))))))), ((d_t_holders 0), .inr (2, [.int (t_holders_sort 0), .long (t_holders_tree 0), .int (t_holders_limit 0), .ref (q_t_holders 0), .long (t_holders_above 0), .int (t_holders_size 0)])), ((q_t_holders 0), .inl (cI, 20, .inl (a_t_holders 0))), ((d_t_holders 1), .inr (2, [.int (t_holders_sort 1), .long (t_holders_tree 1), .int (t_holders_limit 1), .ref (q_t_holders 1), .long (t_holders_above 1), .int (t_holders_size 1)])), ((q_t_holders 1), .inl (cI, 20, .inl (a_t_holders 1))), ((d_t_holders 2), .inr (2, [.int (t_holders_sort 2), .long (t_holders_tree 2), .int (t_holders_limit 2), .ref (q_t_holders 2), .long (t_holders_above 2), .int (t_holders_size 2)])), ((q_t_holders 2), .inl (cI, 20, .inl (a_t_holders 2))), ((d_t_holders 3), .inr (2, [.int (t_holders_sort 3), .long (t_holders_tree 3), .int (t_holders_limit 3), .ref (q_t_holders 3), .long (t_holders_above 3), .int (t_holders_size 3)])), ((q_t_holders 3), .inl (cI, 20, .inl (a_t_holders 3))), ((d_t_holders 4), .inr (2, [.int (t_holders_sort 4), .long (t_holders_tree 4), .int (t_holders_limit 4), .ref (q_t_holders 4), .long (t_holders_above 4), .int (t_holders_size 4)])), ((q_t_holders 4), .inl (cI, 20, .inl (a_t_holders 4))), ((d_t_holders 5), .inr (2, [.int (t_holders_sort 5), .long (t_holders_tree 5), .int (t_holders_limit 5), .ref (q_t_holders 5), .long (t_holders_above 5), .int (t_holders_size 5)])), ((q_t_holders 5), .inl (cI, 20, .inl (a_t_holders 5)))] sz [.ref h_t, .int p0, .int p1, .int p2]) (va_Qi (fun r (_ : Unit) => r = r0 ∧ True) (fun _ t => va_P G vwCl [(h_t, .inr (7, [.ref h_t_desk, .ref h_t_imageDesk, .ref h_t_deeds, .ref h_t_numbers, .ref h_t_tape, .ref h_t_reader, .ref h_t_speller, .ref h_t_holders, .int t_imageKept])), (h_t_holders, .inl (cH, 6, .inr (.inr (.inr (.inr (fun i => some (d_t_holders i))))))), ((d_t_holders 0), .inr (2, [.int (t_holders_sort 0), .long (t_holders_tree 0), .int (t_holders_limit 0), .ref (q_t_holders 0), .long (t_holders_above 0), .int (t_holders_size 0)])), ((q_t_holders 0), .inl (cI, 20, .inl (w0 0))), ((d_t_holders 1), .inr (2, [.int (t_holders_sort 1), .long (t_holders_tree 1), .int (t_holders_limit 1), .ref (q_t_holders 1), .long (t_holders_above 1), .int (t_holders_size 1)])), ((q_t_holders 1), .inl (cI, 20, .inl (w0 1))), ((d_t_holders 2), .inr (2, [.int (t_holders_sort 2), .long (t_holders_tree 2), .int (t_holders_limit 2), .ref (q_t_holders 2), .long (t_holders_above 2), .int (t_holders_size 2)])), ((q_t_holders 2), .inl (cI, 20, .inl (w0 2))), ((d_t_holders 3), .inr (2, [.int (t_holders_sort 3), .long (t_holders_tree 3), .int (t_holders_limit 3), .ref (q_t_holders 3), .long (t_holders_above 3), .int (t_holders_size 3)])), ((q_t_holders 3), .inl (cI, 20, .inl (w0 3))), ((d_t_holders 4), .inr (2, [.int (t_holders_sort 4), .long (t_holders_tree 4), .int (t_holders_limit 4), .ref (q_t_holders 4), .long (t_holders_above 4), .int (t_holders_size 4)])), ((q_t_holders 4), .inl (cI, 20, .inl (w0 4))), ((d_t_holders 5), .inr (2, [.int (t_holders_sort 5), .long (t_holders_tree 5), .int (t_holders_limit 5), .ref (q_t_holders 5), .long (t_holders_above 5), .int (t_holders_size 5)])), ((q_t_holders 5), .inl (cI, 20, .inl (w0 5)))] t.heap) (va_A [(h_t, .inr (7, [.ref h_t_desk, .ref h_t_imageDesk, .ref h_t_deeds, .ref h_t_numbers, .ref h_t_tape, .ref h_t_reader, .ref h_t_speller, .ref h_t_holders, .int t_imageKept])), (h_t_holders, .inl (cH, 6, .inr (.inr (.inr (.inr (fun i => some (d_t_holders i))))))), ((d_t_holders 0), .inr (2, [.int (t_holders_sort 0), .long (t_holders_tree 0), .int (t_holders_limit 0), .ref (q_t_holders 0), .long (t_holders_above 0), .int (t_holders_size 0)])), ((q_t_holders 0), .inl (cI, 20, .inl (a_t_holders 0))), ((d_t_holders 1), .inr (2, [.int (t_holders_sort 1), .long (t_holders_tree 1), .int (t_holders_limit 1), .ref (q_t_holders 1), .long (t_holders_above 1), .int (t_holders_size 1)])), ((q_t_holders 1), .inl (cI, 20, .inl (a_t_holders 1))), ((d_t_holders 2), .inr (2, [.int (t_holders_sort 2), .long (t_holders_tree 2), .int (t_holders_limit 2), .ref (q_t_holders 2), .long (t_holders_above 2), .int (t_holders_size 2)])), ((q_t_holders 2), .inl (cI, 20, .inl (a_t_holders 2))), ((d_t_holders 3), .inr (2, [.int (t_holders_sort 3), .long (t_holders_tree 3), .int (t_holders_limit 3), .ref (q_t_holders 3), .long (t_holders_above 3), .int (t_holders_size 3)])), ((q_t_holders 3), .inl (cI, 20, .inl (a_t_holders 3))), ((d_t_holders 4), .inr (2, [.int (t_holders_sort 4), .long (t_holders_tree 4), .int (t_holders_limit 4), .ref (q_t_holders 4), .long (t_holders_above 4), .int (t_holders_size 4)])), ((q_t_holders 4), .inl (cI, 20, .inl (a_t_holders 4))), ((d_t_holders 5), .inr (2, [.int (t_holders_sort 5), .long (t_holders_tree 5), .int (t_holders_limit 5), .ref (q_t_holders 5), .long (t_holders_above 5), .int (t_holders_size 5)])), ((q_t_holders 5), .inl (cI, 20, .inl (a_t_holders 5)))] sz)) 0 0 (va_A [(h_t, .inr (7, [.ref h_t_desk, .ref h_t_imageDesk, .ref h_t_deeds, .ref h_t_numbers, .ref h_t_tape, .ref h_t_reader, .ref h_t_speller, .ref h_t_holders, .int t_imageKept])), (h_t_holders, .inl (cH, 6, .inr (.inr (.inr (.inr (fun i => some (d_t_holders i))))))), ((d_t_holders 0), .inr (2, [.int (t_holders_sort 0), .long (t_holders_tree 0), .int (t_holders_limit 0), .ref (q_t_holders 0), .long (t_holders_above 0), .int (t_holders_size 0)])), ((q_t_holders 0), .inl (cI, 20, .inl (a_t_holders 0))), ((d_t_holders 1), .inr (2, [.int (t_holders_sort 1), .long (t_holders_tree 1), .int (t_holders_limit 1), .ref (q_t_holders 1), .long (t_holders_above 1), .int (t_holders_size 1)])), ((q_t_holders 1), .inl (cI, 20, .inl (a_t_holders 1))), ((d_t_holders 2), .inr (2, [.int (t_holders_sort 2), .long (t_holders_tree 2), .int (t_holders_limit 2), .ref (q_t_holders 2), .long (t_holders_above 2), .int (t_holders_size 2)])), ((q_t_holders 2), .inl (cI, 20, .inl (a_t_holders 2))), ((d_t_holders 3), .inr (2, [.int (t_holders_sort 3), .long (t_holders_tree 3), .int (t_holders_limit 3), .ref (q_t_holders 3), .long (t_holders_above 3), .int (t_holders_size 3)])), ((q_t_holders 3), .inl (cI, 20, .inl (a_t_holders 3))), ((d_t_holders 4), .inr (2, [.int (t_holders_sort 4), .long (t_holders_tree 4), .int (t_holders_limit 4), .ref (q_t_holders 4), .long (t_holders_above 4), .int (t_holders_size 4)])), ((q_t_holders 4), .inl (cI, 20, .inl (a_t_holders 4))), ((d_t_holders 5), .inr (2, [.int (t_holders_sort 5), .long (t_holders_tree 5), .int (t_holders_limit 5), .ref (q_t_holders 5), .long (t_holders_above 5), .int (t_holders_size 5)])), ((q_t_holders 5), .inl (cI, 20, .inl (a_t_holders 5)))] sz) := by
  refine Met.ofW (cc := cX8_set) (maxL := 6) (ret := (some .int)) (by decide) rfl ?_
  intro p e s m args below meth c s₁ B hml hv
  obtain ⟨rfl, hsz, hP, hK, hD0⟩ := hv
  have hx := B.exec
  have hb := B.bytes
  have hr := B.returns
  have hts := atoms_spec (ws := wsX8_set) B.pre
  have hta : ∀ w ∈ wA, w.before ([.ref h_t, .int p0, .int p1, .int p2] : List Value).toArray s = true := hta_of hts
  have hown : s.vm.findClass RX8 = some m.cls := findClass_of_methodNamed B.named
  have hlocks := B.notSynchronized
  subst hsz
  have hD := hD0.self (sz := s.heap.size)
  generalize hAe : va_A [(h_t, .inr (7, [.ref h_t_desk, .ref h_t_imageDesk, .ref h_t_deeds, .ref h_t_numbers, .ref h_t_tape, .ref h_t_reader, .ref h_t_speller, .ref h_t_holders, .int t_imageKept])), (h_t_holders, .inl (cH, 6, .inr (.inr (.inr (.inr (fun i => some (d_t_holders i))))))), ((d_t_holders 0), .inr (2, [.int (t_holders_sort 0), .long (t_holders_tree 0), .int (t_holders_limit 0), .ref (q_t_holders 0), .long (t_holders_above 0), .int (t_holders_size 0)])), ((q_t_holders 0), .inl (cI, 20, .inl (a_t_holders 0))), ((d_t_holders 1), .inr (2, [.int (t_holders_sort 1), .long (t_holders_tree 1), .int (t_holders_limit 1), .ref (q_t_holders 1), .long (t_holders_above 1), .int (t_holders_size 1)])), ((q_t_holders 1), .inl (cI, 20, .inl (a_t_holders 1))), ((d_t_holders 2), .inr (2, [.int (t_holders_sort 2), .long (t_holders_tree 2), .int (t_holders_limit 2), .ref (q_t_holders 2), .long (t_holders_above 2), .int (t_holders_size 2)])), ((q_t_holders 2), .inl (cI, 20, .inl (a_t_holders 2))), ((d_t_holders 3), .inr (2, [.int (t_holders_sort 3), .long (t_holders_tree 3), .int (t_holders_limit 3), .ref (q_t_holders 3), .long (t_holders_above 3), .int (t_holders_size 3)])), ((q_t_holders 3), .inl (cI, 20, .inl (a_t_holders 3))), ((d_t_holders 4), .inr (2, [.int (t_holders_sort 4), .long (t_holders_tree 4), .int (t_holders_limit 4), .ref (q_t_holders 4), .long (t_holders_above 4), .int (t_holders_size 4)])), ((q_t_holders 4), .inl (cI, 20, .inl (a_t_holders 4))), ((d_t_holders 5), .inr (2, [.int (t_holders_sort 5), .long (t_holders_tree 5), .int (t_holders_limit 5), .ref (q_t_holders 5), .long (t_holders_above 5), .int (t_holders_size 5)])), ((q_t_holders 5), .inl (cI, 20, .inl (a_t_holders 5)))] s.heap.size = A at hD ⊢
  have hA : ∀ q : Nat, s.heap.size ≤ q → A q := fun q h => by rw [← hAe]; exact Or.inr h
  have hS : va_S A s.heap s.heap [] := va_S.rf
  have hl := lv_entry ([.ref h_t, .int p0, .int p1, .int p2]) (n := 6) (Nat.le_of_ble_eq_true rfl)
  rw [lg_entry_eq]
  generalize (lg_sl ([.ref h_t, .int p0, .int p1, .int p2]) ++ List.replicate (6 - (lg_sl ([.ref h_t, .int p0, .int p1, .int p2])).length) Slot.unset).toArray = ls at hl ⊢
  have hl : lv_has ls 6 [(0, .ref h_t), (1, .int p0), (2, .int p1), (3, .int p2)] := hl
  have hinX2 : ∀ w ∈ wsX20, w ∈ wsX8_set := hin_of in_X2
  have h := hF
  unfold F_X8_set at h
  refine lv_aload_n hx hb dX8_set_0 rfl (lv_at hl 0 rfl) ?_
  refine lv_iload_n hx hb dX8_set_1 rfl (lv_at hl 1 rfl) ?_
  obtain ⟨x1, hx1, h⟩ := bd_e h
  try dsimp only at h
  have hc1 := k_lt_X8_holderAt hx1
  by_cases hd1 : x1 = 6
  · subst hd1
    refine k_VqU (n := 1) (As := [.int p0]) (rest := []) hx hb hml hown hts (c_X8_holderAt l G cI cJ cD cH s.heap.size h_t h_t_holders h_t_desk h_t_imageDesk h_t_deeds h_t_numbers h_t_tape h_t_reader h_t_speller d_t_holders q_t_holders a_t_holders t_holders_sort t_holders_tree t_holders_limit t_holders_above t_holders_size t_imageKept p0 6 hx1) gX8_set_X8_holderAt rfl rfl rfl (by decide +kernel) ⟨by first | exact Nat.le_of_ble_eq_true rfl | (simp only [headSpec]; omega), by first | exact Nat.le_of_ble_eq_true rfl | (simp only [headSpec]; omega)⟩ hK hP hD hS hA [0, 1, 2, 3, 4, 5, 6, 7, 8, 9, 10, 11, 12, 13] (by decide) rfl (ci := 7) rfl rfl rfl rfl rfl hl.1 (Nat.le_of_ble_eq_true rfl) dX8_set_2 ⟨Nat.zero_le _, Nat.zero_le _⟩ (fun hp1 H locs hP hS => ?_)
    refine W.eq (g2 := F0 m 5 ls [.null]) rfl ?_
    have h := it_p h rfl
    refine lv_astoreN (lv' := [(4, .null), (0, .ref h_t), (1, .int p0), (2, .int p1), (3, .int p2)]) hx hb dX8_set_5 hl (by decide) rfl (fun ls hl => ?_)
    refine lv_aloadN hx hb dX8_set_7 (lv_at hl 0 rfl) ?_
    refine lv_iconst (v := (3 : Int32)) hx hb dX8_set_9 (by decide) ?_
    obtain ⟨x7, hx7, h⟩ := bd_e h
    try dsimp only at h
    refine k_SiU (n := 2) (As := [.null, .int (3 : Int32)]) (rest := []) hx hb hml hown hts (c_X8_refusalOfN l G cI cJ cD cH H.size (3 : Int32) x7 hx7) gX8_set_X8_refusalOf rfl rfl rfl (by decide +kernel) ⟨by first | exact Nat.le_of_ble_eq_true rfl | (simp only [headSpec]; omega), by first | exact Nat.le_of_ble_eq_true rfl | (simp only [headSpec]; omega)⟩ hK hP hD hS hA [] (by decide) rfl rfl rfl hl.1 (Nat.le_of_ble_eq_true rfl) dX8_set_10 ⟨Nat.zero_le _, Nat.zero_le _⟩ (fun hp7 H locs hP hS => ?_)
    refine lv_istore (lv' := [(5, .int x7), (4, .null), (0, .ref h_t), (1, .int p0), (2, .int p1), (3, .int p2)]) hx hb dX8_set_13 hl (by decide) rfl (fun ls hl => ?_)
    refine lv_aloadN hx hb dX8_set_15 (lv_at hl 1 rfl) ?_
    refine lv_ifnullN (tgt := 25) hx hb dX8_set_17 (by decide) ?_
    refine lv_iload hx hb dX8_set_25 (lv_at hl 0 rfl) ?_
    have h9 := Option.some.inj h
    have e9 : x7 = r0 := congrArg (fun z9 => z9.1) h9
    rw [← e9]
    have e9 : a_t_holders = w0 := congrArg (fun z9 => z9.2) h9
    rw [← e9]
    exact k_iret hx hb hr hlocks hP hS rfl dX8_set_27
  have hb1 : x1 < 6 := by omega
  refine k_VqU (n := 1) (As := [.int p0]) (rest := []) hx hb hml hown hts (c_X8_holderAt l G cI cJ cD cH s.heap.size h_t h_t_holders h_t_desk h_t_imageDesk h_t_deeds h_t_numbers h_t_tape h_t_reader h_t_speller d_t_holders q_t_holders a_t_holders t_holders_sort t_holders_tree t_holders_limit t_holders_above t_holders_size t_imageKept p0 x1 hx1) gX8_set_X8_holderAt rfl rfl rfl (by decide +kernel) ⟨by first | exact Nat.le_of_ble_eq_true rfl | (simp only [headSpec]; omega), by first | exact Nat.le_of_ble_eq_true rfl | (simp only [headSpec]; omega)⟩ hK hP hD hS hA [0, 1, 2, 3, 4, 5, 6, 7, 8, 9, 10, 11, 12, 13] (by decide) rfl (ci := 7) rfl rfl rfl rfl rfl hl.1 (Nat.le_of_ble_eq_true rfl) dX8_set_2 ⟨Nat.zero_le _, Nat.zero_le _⟩ (fun hp1 H locs hP hS => ?_)
  refine W.eq (g2 := F0 m 5 ls [.ref (d_t_holders x1)]) (by rw [if_neg hd1]; rfl) ?_
  have h := it_n h hd1
  refine lv_astore (lv' := [(4, .ref (d_t_holders x1)), (0, .ref h_t), (1, .int p0), (2, .int p1), (3, .int p2)]) hx hb dX8_set_5 hl (by decide) rfl (fun ls hl => ?_)
  refine lv_aload hx hb dX8_set_7 (lv_at hl 0 rfl) ?_
  refine lv_iconst (v := (3 : Int32)) hx hb dX8_set_9 (by decide) ?_
  obtain ⟨x2, hx2, h⟩ := bd_e h
  try dsimp only at h
  refine k_SiU (n := 2) (As := [.ref (d_t_holders x1), .int (3 : Int32)]) (rest := []) hx hb hml hown hts (c_X8_refusalOf l G cI cJ cD cH H.size (d_t_holders x1) (q_t_holders x1) (t_holders_sort x1) (t_holders_tree x1) (t_holders_limit x1) (t_holders_above x1) (t_holders_size x1) (3 : Int32) x2 hx2) gX8_set_X8_refusalOf rfl rfl rfl (by decide +kernel) ⟨by first | exact Nat.le_of_ble_eq_true rfl | (simp only [headSpec]; omega), by first | exact Nat.le_of_ble_eq_true rfl | (simp only [headSpec]; omega)⟩ hK hP hD hS hA [(2 + 2 * x1)] (by obtain rfl | rfl | rfl | rfl | rfl | rfl := k_lt6 hb1 <;> decide) (by obtain rfl | rfl | rfl | rfl | rfl | rfl := k_lt6 hb1 <;> rfl) rfl rfl hl.1 (Nat.le_of_ble_eq_true rfl) dX8_set_10 ⟨Nat.zero_le _, Nat.zero_le _⟩ (fun hp2 H locs hP hS => ?_)
  refine lv_istore (lv' := [(5, .int x2), (4, .ref (d_t_holders x1)), (0, .ref h_t), (1, .int p0), (2, .int p1), (3, .int p2)]) hx hb dX8_set_13 hl (by decide) rfl (fun ls hl => ?_)
  refine lv_aload hx hb dX8_set_15 (lv_at hl 1 rfl) ?_
  refine lv_ifnull hx hb dX8_set_17 ?_
  refine lv_iload hx hb dX8_set_20 (lv_at hl 0 rfl) ?_
  refine lv_if_eq (tgt := 28) hx hb dX8_set_22 (by decide) (fun c3 => ?_) (fun c3 => ?_)
  rotate_left
  · have h := it_n h c3
    refine lv_iload hx hb dX8_set_25 (lv_at hl 0 rfl) ?_
    have h9 := Option.some.inj h
    have e9 : x2 = r0 := congrArg (fun z9 => z9.1) h9
    rw [← e9]
    have e9 : a_t_holders = w0 := congrArg (fun z9 => z9.2) h9
    rw [← e9]
    exact k_iret hx hb hr hlocks hP hS rfl dX8_set_27
  have h := it_p h c3
  refine lv_aload hx hb dX8_set_28 (lv_at hl 1 rfl) ?_
  refine lv_iload_n hx hb dX8_set_30 rfl (lv_at hl 4 rfl) ?_
  obtain ⟨x4, hx4, h⟩ := bd_e h
  try dsimp only at h
  refine k_ViU (n := 1) (As := [.int p1]) (rest := []) hx hb hml hown hts (c_X2_hasPlace l G cI cJ cD cH H.size (d_t_holders x1) (q_t_holders x1) (t_holders_sort x1) (t_holders_tree x1) (t_holders_limit x1) (t_holders_above x1) (t_holders_size x1) p1 x4 hx4) gX8_set_X2_hasPlace rfl rfl rfl (by decide +kernel) ⟨by first | exact Nat.le_of_ble_eq_true rfl | (simp only [headSpec]; omega), by first | exact Nat.le_of_ble_eq_true rfl | (simp only [headSpec]; omega)⟩ hK hP hD hS hA [(2 + 2 * x1)] (by obtain rfl | rfl | rfl | rfl | rfl | rfl := k_lt6 hb1 <;> decide) (by obtain rfl | rfl | rfl | rfl | rfl | rfl := k_lt6 hb1 <;> rfl) (ci := 2) rfl rfl rfl rfl rfl hl.1 (Nat.le_of_ble_eq_true rfl) dX8_set_31 ⟨Nat.zero_le _, Nat.zero_le _⟩ (fun hp4 H locs hP hS => ?_)
  refine lv_if_ne (tgt := 40) hx hb dX8_set_34 (by decide) (fun c5 => ?_) (fun c5 => ?_)
  rotate_left
  · have h := it_p h c5
    refine lv_bipush (v := (-13 : Int32)) hx hb dX8_set_37 (by decide) ?_
    have h9 := Option.some.inj h
    have e9 : (-13 : Int32) = r0 := congrArg (fun z9 => z9.1) h9
    rw [← e9]
    have e9 : a_t_holders = w0 := congrArg (fun z9 => z9.2) h9
    rw [← e9]
    exact k_iret hx hb hr hlocks hP hS rfl dX8_set_39
  have h := it_n h c5
  refine lv_aload hx hb dX8_set_40 (lv_at hl 1 rfl) ?_
  refine va_get (D := G) (fs := [.int (t_holders_sort x1), .long (t_holders_tree x1), .int (t_holders_limit x1), .ref (q_t_holders x1), .long (t_holders_above x1), .int (t_holders_size x1)]) (ci := 2) (v := .ref (q_t_holders x1)) (C := RX2) (T := TX2) (N := 6) hx hb hts hinX2 hown hK hP (2 + 2 * x1) (by obtain rfl | rfl | rfl | rfl | rfl | rfl := k_lt6 hb1 <;> rfl) rfl 3 (by decide) (hta _ mw_591) (fun _ h9 => h9) rfl dX8_set_42 ?_
  refine lv_iload_n hx hb dX8_set_45 rfl (lv_at hl 4 rfl) ?_
  refine lv_iload_n hx hb dX8_set_46 rfl (lv_at hl 5 rfl) ?_
  obtain ⟨hn6, h⟩ := ck_e h
  refine va_iast (cA := cI) (n := 20) (f := (a_t_holders x1)) hx hb hK hP hD hS (3 + 2 * x1) 0 (by obtain rfl | rfl | rfl | rfl | rfl | rfl := k_lt6 hb1 <;> rfl) rfl hn6 dX8_set_47 (fun H locs hP hD hS => ?_)
  have he9 : ([(h_t, .inr (7, [.ref h_t_desk, .ref h_t_imageDesk, .ref h_t_deeds, .ref h_t_numbers, .ref h_t_tape, .ref h_t_reader, .ref h_t_speller, .ref h_t_holders, .int t_imageKept])), (h_t_holders, .inl (cH, 6, .inr (.inr (.inr (.inr (fun i => some (d_t_holders i))))))), ((d_t_holders 0), .inr (2, [.int (t_holders_sort 0), .long (t_holders_tree 0), .int (t_holders_limit 0), .ref (q_t_holders 0), .long (t_holders_above 0), .int (t_holders_size 0)])), ((q_t_holders 0), .inl (cI, 20, .inl (a_t_holders 0))), ((d_t_holders 1), .inr (2, [.int (t_holders_sort 1), .long (t_holders_tree 1), .int (t_holders_limit 1), .ref (q_t_holders 1), .long (t_holders_above 1), .int (t_holders_size 1)])), ((q_t_holders 1), .inl (cI, 20, .inl (a_t_holders 1))), ((d_t_holders 2), .inr (2, [.int (t_holders_sort 2), .long (t_holders_tree 2), .int (t_holders_limit 2), .ref (q_t_holders 2), .long (t_holders_above 2), .int (t_holders_size 2)])), ((q_t_holders 2), .inl (cI, 20, .inl (a_t_holders 2))), ((d_t_holders 3), .inr (2, [.int (t_holders_sort 3), .long (t_holders_tree 3), .int (t_holders_limit 3), .ref (q_t_holders 3), .long (t_holders_above 3), .int (t_holders_size 3)])), ((q_t_holders 3), .inl (cI, 20, .inl (a_t_holders 3))), ((d_t_holders 4), .inr (2, [.int (t_holders_sort 4), .long (t_holders_tree 4), .int (t_holders_limit 4), .ref (q_t_holders 4), .long (t_holders_above 4), .int (t_holders_size 4)])), ((q_t_holders 4), .inl (cI, 20, .inl (a_t_holders 4))), ((d_t_holders 5), .inr (2, [.int (t_holders_sort 5), .long (t_holders_tree 5), .int (t_holders_limit 5), .ref (q_t_holders 5), .long (t_holders_above 5), .int (t_holders_size 5)])), ((q_t_holders 5), .inl (cI, 20, .inl (a_t_holders 5)))] : va_W).set (3 + 2 * x1) ((q_t_holders x1), .inl (cI, 20, .inl (upd (a_t_holders x1) p1.toNatClampNeg p2))) = [(h_t, .inr (7, [.ref h_t_desk, .ref h_t_imageDesk, .ref h_t_deeds, .ref h_t_numbers, .ref h_t_tape, .ref h_t_reader, .ref h_t_speller, .ref h_t_holders, .int t_imageKept])), (h_t_holders, .inl (cH, 6, .inr (.inr (.inr (.inr (fun i => some (d_t_holders i))))))), ((d_t_holders 0), .inr (2, [.int (t_holders_sort 0), .long (t_holders_tree 0), .int (t_holders_limit 0), .ref (q_t_holders 0), .long (t_holders_above 0), .int (t_holders_size 0)])), ((q_t_holders 0), .inl (cI, 20, .inl ((va_up a_t_holders x1 (upd (a_t_holders x1) p1.toNatClampNeg p2)) 0))), ((d_t_holders 1), .inr (2, [.int (t_holders_sort 1), .long (t_holders_tree 1), .int (t_holders_limit 1), .ref (q_t_holders 1), .long (t_holders_above 1), .int (t_holders_size 1)])), ((q_t_holders 1), .inl (cI, 20, .inl ((va_up a_t_holders x1 (upd (a_t_holders x1) p1.toNatClampNeg p2)) 1))), ((d_t_holders 2), .inr (2, [.int (t_holders_sort 2), .long (t_holders_tree 2), .int (t_holders_limit 2), .ref (q_t_holders 2), .long (t_holders_above 2), .int (t_holders_size 2)])), ((q_t_holders 2), .inl (cI, 20, .inl ((va_up a_t_holders x1 (upd (a_t_holders x1) p1.toNatClampNeg p2)) 2))), ((d_t_holders 3), .inr (2, [.int (t_holders_sort 3), .long (t_holders_tree 3), .int (t_holders_limit 3), .ref (q_t_holders 3), .long (t_holders_above 3), .int (t_holders_size 3)])), ((q_t_holders 3), .inl (cI, 20, .inl ((va_up a_t_holders x1 (upd (a_t_holders x1) p1.toNatClampNeg p2)) 3))), ((d_t_holders 4), .inr (2, [.int (t_holders_sort 4), .long (t_holders_tree 4), .int (t_holders_limit 4), .ref (q_t_holders 4), .long (t_holders_above 4), .int (t_holders_size 4)])), ((q_t_holders 4), .inl (cI, 20, .inl ((va_up a_t_holders x1 (upd (a_t_holders x1) p1.toNatClampNeg p2)) 4))), ((d_t_holders 5), .inr (2, [.int (t_holders_sort 5), .long (t_holders_tree 5), .int (t_holders_limit 5), .ref (q_t_holders 5), .long (t_holders_above 5), .int (t_holders_size 5)])), ((q_t_holders 5), .inl (cI, 20, .inl ((va_up a_t_holders x1 (upd (a_t_holders x1) p1.toNatClampNeg p2)) 5)))] := (by obtain rfl | rfl | rfl | rfl | rfl | rfl := k_lt6 hb1 <;> rfl)
  have hP : va_P G vwCl [(h_t, .inr (7, [.ref h_t_desk, .ref h_t_imageDesk, .ref h_t_deeds, .ref h_t_numbers, .ref h_t_tape, .ref h_t_reader, .ref h_t_speller, .ref h_t_holders, .int t_imageKept])), (h_t_holders, .inl (cH, 6, .inr (.inr (.inr (.inr (fun i => some (d_t_holders i))))))), ((d_t_holders 0), .inr (2, [.int (t_holders_sort 0), .long (t_holders_tree 0), .int (t_holders_limit 0), .ref (q_t_holders 0), .long (t_holders_above 0), .int (t_holders_size 0)])), ((q_t_holders 0), .inl (cI, 20, .inl ((va_up a_t_holders x1 (upd (a_t_holders x1) p1.toNatClampNeg p2)) 0))), ((d_t_holders 1), .inr (2, [.int (t_holders_sort 1), .long (t_holders_tree 1), .int (t_holders_limit 1), .ref (q_t_holders 1), .long (t_holders_above 1), .int (t_holders_size 1)])), ((q_t_holders 1), .inl (cI, 20, .inl ((va_up a_t_holders x1 (upd (a_t_holders x1) p1.toNatClampNeg p2)) 1))), ((d_t_holders 2), .inr (2, [.int (t_holders_sort 2), .long (t_holders_tree 2), .int (t_holders_limit 2), .ref (q_t_holders 2), .long (t_holders_above 2), .int (t_holders_size 2)])), ((q_t_holders 2), .inl (cI, 20, .inl ((va_up a_t_holders x1 (upd (a_t_holders x1) p1.toNatClampNeg p2)) 2))), ((d_t_holders 3), .inr (2, [.int (t_holders_sort 3), .long (t_holders_tree 3), .int (t_holders_limit 3), .ref (q_t_holders 3), .long (t_holders_above 3), .int (t_holders_size 3)])), ((q_t_holders 3), .inl (cI, 20, .inl ((va_up a_t_holders x1 (upd (a_t_holders x1) p1.toNatClampNeg p2)) 3))), ((d_t_holders 4), .inr (2, [.int (t_holders_sort 4), .long (t_holders_tree 4), .int (t_holders_limit 4), .ref (q_t_holders 4), .long (t_holders_above 4), .int (t_holders_size 4)])), ((q_t_holders 4), .inl (cI, 20, .inl ((va_up a_t_holders x1 (upd (a_t_holders x1) p1.toNatClampNeg p2)) 4))), ((d_t_holders 5), .inr (2, [.int (t_holders_sort 5), .long (t_holders_tree 5), .int (t_holders_limit 5), .ref (q_t_holders 5), .long (t_holders_above 5), .int (t_holders_size 5)])), ((q_t_holders 5), .inl (cI, 20, .inl ((va_up a_t_holders x1 (upd (a_t_holders x1) p1.toNatClampNeg p2)) 5)))] H := Eq.mp (congrArg (fun X9 => va_P G vwCl X9 H) he9) hP
  have hD : va_D A [(h_t, .inr (7, [.ref h_t_desk, .ref h_t_imageDesk, .ref h_t_deeds, .ref h_t_numbers, .ref h_t_tape, .ref h_t_reader, .ref h_t_speller, .ref h_t_holders, .int t_imageKept])), (h_t_holders, .inl (cH, 6, .inr (.inr (.inr (.inr (fun i => some (d_t_holders i))))))), ((d_t_holders 0), .inr (2, [.int (t_holders_sort 0), .long (t_holders_tree 0), .int (t_holders_limit 0), .ref (q_t_holders 0), .long (t_holders_above 0), .int (t_holders_size 0)])), ((q_t_holders 0), .inl (cI, 20, .inl ((va_up a_t_holders x1 (upd (a_t_holders x1) p1.toNatClampNeg p2)) 0))), ((d_t_holders 1), .inr (2, [.int (t_holders_sort 1), .long (t_holders_tree 1), .int (t_holders_limit 1), .ref (q_t_holders 1), .long (t_holders_above 1), .int (t_holders_size 1)])), ((q_t_holders 1), .inl (cI, 20, .inl ((va_up a_t_holders x1 (upd (a_t_holders x1) p1.toNatClampNeg p2)) 1))), ((d_t_holders 2), .inr (2, [.int (t_holders_sort 2), .long (t_holders_tree 2), .int (t_holders_limit 2), .ref (q_t_holders 2), .long (t_holders_above 2), .int (t_holders_size 2)])), ((q_t_holders 2), .inl (cI, 20, .inl ((va_up a_t_holders x1 (upd (a_t_holders x1) p1.toNatClampNeg p2)) 2))), ((d_t_holders 3), .inr (2, [.int (t_holders_sort 3), .long (t_holders_tree 3), .int (t_holders_limit 3), .ref (q_t_holders 3), .long (t_holders_above 3), .int (t_holders_size 3)])), ((q_t_holders 3), .inl (cI, 20, .inl ((va_up a_t_holders x1 (upd (a_t_holders x1) p1.toNatClampNeg p2)) 3))), ((d_t_holders 4), .inr (2, [.int (t_holders_sort 4), .long (t_holders_tree 4), .int (t_holders_limit 4), .ref (q_t_holders 4), .long (t_holders_above 4), .int (t_holders_size 4)])), ((q_t_holders 4), .inl (cI, 20, .inl ((va_up a_t_holders x1 (upd (a_t_holders x1) p1.toNatClampNeg p2)) 4))), ((d_t_holders 5), .inr (2, [.int (t_holders_sort 5), .long (t_holders_tree 5), .int (t_holders_limit 5), .ref (q_t_holders 5), .long (t_holders_above 5), .int (t_holders_size 5)])), ((q_t_holders 5), .inl (cI, 20, .inl ((va_up a_t_holders x1 (upd (a_t_holders x1) p1.toNatClampNeg p2)) 5)))] := Eq.mp (congrArg (fun X9 => va_D A X9) he9) hD
  have hP : va_P G vwCl [(h_t, .inr (7, [.ref h_t_desk, .ref h_t_imageDesk, .ref h_t_deeds, .ref h_t_numbers, .ref h_t_tape, .ref h_t_reader, .ref h_t_speller, .ref h_t_holders, .int t_imageKept])), (h_t_holders, .inl (cH, 6, .inr (.inr (.inr (.inr (fun i => some (d_t_holders i))))))), ((d_t_holders 0), .inr (2, [.int (t_holders_sort 0), .long (t_holders_tree 0), .int (t_holders_limit 0), .ref (q_t_holders 0), .long (t_holders_above 0), .int (t_holders_size 0)])), ((q_t_holders 0), .inl (cI, 20, .inl ((va_up a_t_holders x1 (upd (a_t_holders x1) p1.toNatClampNeg p2)) 0))), ((d_t_holders 1), .inr (2, [.int (t_holders_sort 1), .long (t_holders_tree 1), .int (t_holders_limit 1), .ref (q_t_holders 1), .long (t_holders_above 1), .int (t_holders_size 1)])), ((q_t_holders 1), .inl (cI, 20, .inl ((va_up a_t_holders x1 (upd (a_t_holders x1) p1.toNatClampNeg p2)) 1))), ((d_t_holders 2), .inr (2, [.int (t_holders_sort 2), .long (t_holders_tree 2), .int (t_holders_limit 2), .ref (q_t_holders 2), .long (t_holders_above 2), .int (t_holders_size 2)])), ((q_t_holders 2), .inl (cI, 20, .inl ((va_up a_t_holders x1 (upd (a_t_holders x1) p1.toNatClampNeg p2)) 2))), ((d_t_holders 3), .inr (2, [.int (t_holders_sort 3), .long (t_holders_tree 3), .int (t_holders_limit 3), .ref (q_t_holders 3), .long (t_holders_above 3), .int (t_holders_size 3)])), ((q_t_holders 3), .inl (cI, 20, .inl ((va_up a_t_holders x1 (upd (a_t_holders x1) p1.toNatClampNeg p2)) 3))), ((d_t_holders 4), .inr (2, [.int (t_holders_sort 4), .long (t_holders_tree 4), .int (t_holders_limit 4), .ref (q_t_holders 4), .long (t_holders_above 4), .int (t_holders_size 4)])), ((q_t_holders 4), .inl (cI, 20, .inl ((va_up a_t_holders x1 (upd (a_t_holders x1) p1.toNatClampNeg p2)) 4))), ((d_t_holders 5), .inr (2, [.int (t_holders_sort 5), .long (t_holders_tree 5), .int (t_holders_limit 5), .ref (q_t_holders 5), .long (t_holders_above 5), .int (t_holders_size 5)])), ((q_t_holders 5), .inl (cI, 20, .inl ((va_up a_t_holders x1 (upd (a_t_holders x1) p1.toNatClampNeg p2)) 5)))] H := hP
  have hD : va_D A [(h_t, .inr (7, [.ref h_t_desk, .ref h_t_imageDesk, .ref h_t_deeds, .ref h_t_numbers, .ref h_t_tape, .ref h_t_reader, .ref h_t_speller, .ref h_t_holders, .int t_imageKept])), (h_t_holders, .inl (cH, 6, .inr (.inr (.inr (.inr (fun i => some (d_t_holders i))))))), ((d_t_holders 0), .inr (2, [.int (t_holders_sort 0), .long (t_holders_tree 0), .int (t_holders_limit 0), .ref (q_t_holders 0), .long (t_holders_above 0), .int (t_holders_size 0)])), ((q_t_holders 0), .inl (cI, 20, .inl ((va_up a_t_holders x1 (upd (a_t_holders x1) p1.toNatClampNeg p2)) 0))), ((d_t_holders 1), .inr (2, [.int (t_holders_sort 1), .long (t_holders_tree 1), .int (t_holders_limit 1), .ref (q_t_holders 1), .long (t_holders_above 1), .int (t_holders_size 1)])), ((q_t_holders 1), .inl (cI, 20, .inl ((va_up a_t_holders x1 (upd (a_t_holders x1) p1.toNatClampNeg p2)) 1))), ((d_t_holders 2), .inr (2, [.int (t_holders_sort 2), .long (t_holders_tree 2), .int (t_holders_limit 2), .ref (q_t_holders 2), .long (t_holders_above 2), .int (t_holders_size 2)])), ((q_t_holders 2), .inl (cI, 20, .inl ((va_up a_t_holders x1 (upd (a_t_holders x1) p1.toNatClampNeg p2)) 2))), ((d_t_holders 3), .inr (2, [.int (t_holders_sort 3), .long (t_holders_tree 3), .int (t_holders_limit 3), .ref (q_t_holders 3), .long (t_holders_above 3), .int (t_holders_size 3)])), ((q_t_holders 3), .inl (cI, 20, .inl ((va_up a_t_holders x1 (upd (a_t_holders x1) p1.toNatClampNeg p2)) 3))), ((d_t_holders 4), .inr (2, [.int (t_holders_sort 4), .long (t_holders_tree 4), .int (t_holders_limit 4), .ref (q_t_holders 4), .long (t_holders_above 4), .int (t_holders_size 4)])), ((q_t_holders 4), .inl (cI, 20, .inl ((va_up a_t_holders x1 (upd (a_t_holders x1) p1.toNatClampNeg p2)) 4))), ((d_t_holders 5), .inr (2, [.int (t_holders_sort 5), .long (t_holders_tree 5), .int (t_holders_limit 5), .ref (q_t_holders 5), .long (t_holders_above 5), .int (t_holders_size 5)])), ((q_t_holders 5), .inl (cI, 20, .inl ((va_up a_t_holders x1 (upd (a_t_holders x1) p1.toNatClampNeg p2)) 5)))] := hD
  refine lv_iconst (v := (1 : Int32)) hx hb dX8_set_48 (by decide) ?_
  have h9 := Option.some.inj h
  have e9 : (1 : Int32) = r0 := congrArg (fun z9 => z9.1) h9
  rw [← e9]
  have e9 : (va_up a_t_holders x1 (upd (a_t_holders x1) p1.toNatClampNeg p2)) = w0 := congrArg (fun z9 => z9.2) h9
  rw [← e9]
  exact k_iret hx hb hr hlocks hP hS rfl dX8_set_49

/-! X8_get -/
set_option maxHeartbeats 40000000 in
set_option maxRecDepth 100000 in
theorem c_X8_get (l : Launch) (G : va_G) (cI cJ cD cH : ClassId) (sz : Nat) (h_t : Nat) (h_t_holders : Nat) (h_t_desk : Nat) (h_t_imageDesk : Nat) (h_t_deeds : Nat) (h_t_numbers : Nat) (h_t_tape : Nat) (h_t_reader : Nat) (h_t_speller : Nat) (d_t_holders : Nat → Nat) (q_t_holders : Nat → Nat) (a_t_holders : Nat → Nat → Int32) (t_holders_sort : Nat → Int32) (t_holders_tree : Nat → Int64) (t_holders_limit : Nat → Int32) (t_holders_above : Nat → Int64) (t_holders_size : Nat → Int32) (t_imageKept : Int32) (p0 : Int32) (p1 : Int32) (r0 : Int64) (hF : F_X8_get a_t_holders t_holders_sort t_holders_size p0 p1 = some r0) : Met l yX8_get wsX8_get ({ frames := 1, cells := 0, slots := 0, locals := 21 }) (k_pre G (k_T cI cJ cD cH) [(h_t, .inr (7, [.ref h_t_desk, .ref h_t_imageDesk, .ref h_t_deeds, .ref h_t_numbers, .ref h_t_tape, .ref h_t_reader, .ref h_t_speller, .ref h_t_holders, .int t_imageKept])), (h_t_holders, .inl (cH, 6, .inr (.inr (.inr (.inr (fun i => some (d_t_holders i))))))), ((d_t_holders 0), .inr (2, [.int (t_holders_sort 0), .long (t_holders_tree 0), .int (t_holders_limit 0), .ref (q_t_holders 0), .long (t_holders_above 0), .int (t_holders_size 0)])), ((q_t_holders 0), .inl (cI, 20, .inl (a_t_holders 0))), ((d_t_holders 1), .inr (2, [.int (t_holders_sort 1), .long (t_holders_tree 1), .int (t_holders_limit 1), .ref (q_t_holders 1), .long (t_holders_above 1), .int (t_holders_size 1)])), ((q_t_holders 1), .inl (cI, 20, .inl (a_t_holders 1))), ((d_t_holders 2), .inr (2, [.int (t_holders_sort 2), .long (t_holders_tree 2), .int (t_holders_limit 2), .ref (q_t_holders 2), .long (t_holders_above 2), .int (t_holders_size 2)])), ((q_t_holders 2), .inl (cI, 20, .inl (a_t_holders 2))), ((d_t_holders 3), .inr (2, [.int (t_holders_sort 3), .long (t_holders_tree 3), .int (t_holders_limit 3), .ref (q_t_holders 3), .long (t_holders_above 3), .int (t_holders_size 3)])), ((q_t_holders 3), .inl (cI, 20, .inl (a_t_holders 3))), ((d_t_holders 4), .inr (2, [.int (t_holders_sort 4), .long (t_holders_tree 4), .int (t_holders_limit 4), .ref (q_t_holders 4), .long (t_holders_above 4), .int (t_holders_size 4)])), ((q_t_holders 4), .inl (cI, 20, .inl (a_t_holders 4))), ((d_t_holders 5), .inr (2, [.int (t_holders_sort 5), .long (t_holders_tree 5), .int (t_holders_limit 5), .ref (q_t_holders 5), .long (t_holders_above 5), .int (t_holders_size 5)])), ((q_t_holders 5), .inl (cI, 20, .inl (a_t_holders 5)))] sz [.ref h_t, .int p0, .int p1]) (va_Ql (fun r (_ : Unit) => r = r0 ∧ True) (fun _ t => va_P G vwCl [(h_t, .inr (7, [.ref h_t_desk, .ref h_t_imageDesk, .ref h_t_deeds, .ref h_t_numbers, .ref h_t_tape, .ref h_t_reader, .ref h_t_speller, .ref h_t_holders, .int t_imageKept])), (h_t_holders, .inl (cH, 6, .inr (.inr (.inr (.inr (fun i => some (d_t_holders i))))))), ((d_t_holders 0), .inr (2, [.int (t_holders_sort 0), .long (t_holders_tree 0), .int (t_holders_limit 0), .ref (q_t_holders 0), .long (t_holders_above 0), .int (t_holders_size 0)])), ((q_t_holders 0), .inl (cI, 20, .inl (a_t_holders 0))), ((d_t_holders 1), .inr (2, [.int (t_holders_sort 1), .long (t_holders_tree 1), .int (t_holders_limit 1), .ref (q_t_holders 1), .long (t_holders_above 1), .int (t_holders_size 1)])), ((q_t_holders 1), .inl (cI, 20, .inl (a_t_holders 1))), ((d_t_holders 2), .inr (2, [.int (t_holders_sort 2), .long (t_holders_tree 2), .int (t_holders_limit 2), .ref (q_t_holders 2), .long (t_holders_above 2), .int (t_holders_size 2)])), ((q_t_holders 2), .inl (cI, 20, .inl (a_t_holders 2))), ((d_t_holders 3), .inr (2, [.int (t_holders_sort 3), .long (t_holders_tree 3), .int (t_holders_limit 3), .ref (q_t_holders 3), .long (t_holders_above 3), .int (t_holders_size 3)])), ((q_t_holders 3), .inl (cI, 20, .inl (a_t_holders 3))), ((d_t_holders 4), .inr (2, [.int (t_holders_sort 4), .long (t_holders_tree 4), .int (t_holders_limit 4), .ref (q_t_holders 4), .long (t_holders_above 4), .int (t_holders_size 4)])), ((q_t_holders 4), .inl (cI, 20, .inl (a_t_holders 4))), ((d_t_holders 5), .inr (2, [.int (t_holders_sort 5), .long (t_holders_tree 5), .int (t_holders_limit 5), .ref (q_t_holders 5), .long (t_holders_above 5), .int (t_holders_size 5)])), ((q_t_holders 5), .inl (cI, 20, .inl (a_t_holders 5)))] t.heap) (va_A [(h_t, .inr (7, [.ref h_t_desk, .ref h_t_imageDesk, .ref h_t_deeds, .ref h_t_numbers, .ref h_t_tape, .ref h_t_reader, .ref h_t_speller, .ref h_t_holders, .int t_imageKept])), (h_t_holders, .inl (cH, 6, .inr (.inr (.inr (.inr (fun i => some (d_t_holders i))))))), ((d_t_holders 0), .inr (2, [.int (t_holders_sort 0), .long (t_holders_tree 0), .int (t_holders_limit 0), .ref (q_t_holders 0), .long (t_holders_above 0), .int (t_holders_size 0)])), ((q_t_holders 0), .inl (cI, 20, .inl (a_t_holders 0))), ((d_t_holders 1), .inr (2, [.int (t_holders_sort 1), .long (t_holders_tree 1), .int (t_holders_limit 1), .ref (q_t_holders 1), .long (t_holders_above 1), .int (t_holders_size 1)])), ((q_t_holders 1), .inl (cI, 20, .inl (a_t_holders 1))), ((d_t_holders 2), .inr (2, [.int (t_holders_sort 2), .long (t_holders_tree 2), .int (t_holders_limit 2), .ref (q_t_holders 2), .long (t_holders_above 2), .int (t_holders_size 2)])), ((q_t_holders 2), .inl (cI, 20, .inl (a_t_holders 2))), ((d_t_holders 3), .inr (2, [.int (t_holders_sort 3), .long (t_holders_tree 3), .int (t_holders_limit 3), .ref (q_t_holders 3), .long (t_holders_above 3), .int (t_holders_size 3)])), ((q_t_holders 3), .inl (cI, 20, .inl (a_t_holders 3))), ((d_t_holders 4), .inr (2, [.int (t_holders_sort 4), .long (t_holders_tree 4), .int (t_holders_limit 4), .ref (q_t_holders 4), .long (t_holders_above 4), .int (t_holders_size 4)])), ((q_t_holders 4), .inl (cI, 20, .inl (a_t_holders 4))), ((d_t_holders 5), .inr (2, [.int (t_holders_sort 5), .long (t_holders_tree 5), .int (t_holders_limit 5), .ref (q_t_holders 5), .long (t_holders_above 5), .int (t_holders_size 5)])), ((q_t_holders 5), .inl (cI, 20, .inl (a_t_holders 5)))] sz)) 0 0 (va_A [(h_t, .inr (7, [.ref h_t_desk, .ref h_t_imageDesk, .ref h_t_deeds, .ref h_t_numbers, .ref h_t_tape, .ref h_t_reader, .ref h_t_speller, .ref h_t_holders, .int t_imageKept])), (h_t_holders, .inl (cH, 6, .inr (.inr (.inr (.inr (fun i => some (d_t_holders i))))))), ((d_t_holders 0), .inr (2, [.int (t_holders_sort 0), .long (t_holders_tree 0), .int (t_holders_limit 0), .ref (q_t_holders 0), .long (t_holders_above 0), .int (t_holders_size 0)])), ((q_t_holders 0), .inl (cI, 20, .inl (a_t_holders 0))), ((d_t_holders 1), .inr (2, [.int (t_holders_sort 1), .long (t_holders_tree 1), .int (t_holders_limit 1), .ref (q_t_holders 1), .long (t_holders_above 1), .int (t_holders_size 1)])), ((q_t_holders 1), .inl (cI, 20, .inl (a_t_holders 1))), ((d_t_holders 2), .inr (2, [.int (t_holders_sort 2), .long (t_holders_tree 2), .int (t_holders_limit 2), .ref (q_t_holders 2), .long (t_holders_above 2), .int (t_holders_size 2)])), ((q_t_holders 2), .inl (cI, 20, .inl (a_t_holders 2))), ((d_t_holders 3), .inr (2, [.int (t_holders_sort 3), .long (t_holders_tree 3), .int (t_holders_limit 3), .ref (q_t_holders 3), .long (t_holders_above 3), .int (t_holders_size 3)])), ((q_t_holders 3), .inl (cI, 20, .inl (a_t_holders 3))), ((d_t_holders 4), .inr (2, [.int (t_holders_sort 4), .long (t_holders_tree 4), .int (t_holders_limit 4), .ref (q_t_holders 4), .long (t_holders_above 4), .int (t_holders_size 4)])), ((q_t_holders 4), .inl (cI, 20, .inl (a_t_holders 4))), ((d_t_holders 5), .inr (2, [.int (t_holders_sort 5), .long (t_holders_tree 5), .int (t_holders_limit 5), .ref (q_t_holders 5), .long (t_holders_above 5), .int (t_holders_size 5)])), ((q_t_holders 5), .inl (cI, 20, .inl (a_t_holders 5)))] sz) := by
  refine Met.ofW (cc := cX8_get) (maxL := 4) (ret := (some .long)) (by decide) rfl ?_
  intro p e s m args below meth c s₁ B hml hv
  obtain ⟨rfl, hsz, hP, hK, hD0⟩ := hv
  have hx := B.exec
  have hb := B.bytes
  have hr := B.returns
  have hts := atoms_spec (ws := wsX8_get) B.pre
  have hta : ∀ w ∈ wA, w.before ([.ref h_t, .int p0, .int p1] : List Value).toArray s = true := hta_of hts
  have hown : s.vm.findClass RX8 = some m.cls := findClass_of_methodNamed B.named
  have hlocks := B.notSynchronized
  subst hsz
  have hD := hD0.self (sz := s.heap.size)
  generalize hAe : va_A [(h_t, .inr (7, [.ref h_t_desk, .ref h_t_imageDesk, .ref h_t_deeds, .ref h_t_numbers, .ref h_t_tape, .ref h_t_reader, .ref h_t_speller, .ref h_t_holders, .int t_imageKept])), (h_t_holders, .inl (cH, 6, .inr (.inr (.inr (.inr (fun i => some (d_t_holders i))))))), ((d_t_holders 0), .inr (2, [.int (t_holders_sort 0), .long (t_holders_tree 0), .int (t_holders_limit 0), .ref (q_t_holders 0), .long (t_holders_above 0), .int (t_holders_size 0)])), ((q_t_holders 0), .inl (cI, 20, .inl (a_t_holders 0))), ((d_t_holders 1), .inr (2, [.int (t_holders_sort 1), .long (t_holders_tree 1), .int (t_holders_limit 1), .ref (q_t_holders 1), .long (t_holders_above 1), .int (t_holders_size 1)])), ((q_t_holders 1), .inl (cI, 20, .inl (a_t_holders 1))), ((d_t_holders 2), .inr (2, [.int (t_holders_sort 2), .long (t_holders_tree 2), .int (t_holders_limit 2), .ref (q_t_holders 2), .long (t_holders_above 2), .int (t_holders_size 2)])), ((q_t_holders 2), .inl (cI, 20, .inl (a_t_holders 2))), ((d_t_holders 3), .inr (2, [.int (t_holders_sort 3), .long (t_holders_tree 3), .int (t_holders_limit 3), .ref (q_t_holders 3), .long (t_holders_above 3), .int (t_holders_size 3)])), ((q_t_holders 3), .inl (cI, 20, .inl (a_t_holders 3))), ((d_t_holders 4), .inr (2, [.int (t_holders_sort 4), .long (t_holders_tree 4), .int (t_holders_limit 4), .ref (q_t_holders 4), .long (t_holders_above 4), .int (t_holders_size 4)])), ((q_t_holders 4), .inl (cI, 20, .inl (a_t_holders 4))), ((d_t_holders 5), .inr (2, [.int (t_holders_sort 5), .long (t_holders_tree 5), .int (t_holders_limit 5), .ref (q_t_holders 5), .long (t_holders_above 5), .int (t_holders_size 5)])), ((q_t_holders 5), .inl (cI, 20, .inl (a_t_holders 5)))] s.heap.size = A at hD ⊢
  have hA : ∀ q : Nat, s.heap.size ≤ q → A q := fun q h => by rw [← hAe]; exact Or.inr h
  have hS : va_S A s.heap s.heap [] := va_S.rf
  have hl := lv_entry ([.ref h_t, .int p0, .int p1]) (n := 4) (Nat.le_of_ble_eq_true rfl)
  rw [lg_entry_eq]
  generalize (lg_sl ([.ref h_t, .int p0, .int p1]) ++ List.replicate (4 - (lg_sl ([.ref h_t, .int p0, .int p1])).length) Slot.unset).toArray = ls at hl ⊢
  have hl : lv_has ls 4 [(0, .ref h_t), (1, .int p0), (2, .int p1)] := hl
  have hinX2 : ∀ w ∈ wsX20, w ∈ wsX8_get := hin_of in_X2
  have h := hF
  unfold F_X8_get at h
  refine lv_aload_n hx hb dX8_get_0 rfl (lv_at hl 0 rfl) ?_
  refine lv_iload_n hx hb dX8_get_1 rfl (lv_at hl 1 rfl) ?_
  obtain ⟨x1, hx1, h⟩ := bd_e h
  try dsimp only at h
  have hc1 := k_lt_X8_holderAt hx1
  by_cases hd1 : x1 = 6
  · subst hd1
    refine k_VqU (n := 1) (As := [.int p0]) (rest := []) hx hb hml hown hts (c_X8_holderAt l G cI cJ cD cH s.heap.size h_t h_t_holders h_t_desk h_t_imageDesk h_t_deeds h_t_numbers h_t_tape h_t_reader h_t_speller d_t_holders q_t_holders a_t_holders t_holders_sort t_holders_tree t_holders_limit t_holders_above t_holders_size t_imageKept p0 6 hx1) gX8_get_X8_holderAt rfl rfl rfl (by decide +kernel) ⟨by first | exact Nat.le_of_ble_eq_true rfl | (simp only [headSpec]; omega), by first | exact Nat.le_of_ble_eq_true rfl | (simp only [headSpec]; omega)⟩ hK hP hD hS hA [0, 1, 2, 3, 4, 5, 6, 7, 8, 9, 10, 11, 12, 13] (by decide) rfl (ci := 7) rfl rfl rfl rfl rfl hl.1 (Nat.le_of_ble_eq_true rfl) dX8_get_2 ⟨Nat.zero_le _, Nat.zero_le _⟩ (fun hp1 H locs hP hS => ?_)
    refine W.eq (g2 := F0 m 5 ls [.null]) rfl ?_
    have h := it_p h rfl
    refine lv_astore_nN (lv' := [(3, .null), (0, .ref h_t), (1, .int p0), (2, .int p1)]) hx hb dX8_get_5 rfl hl (by decide) rfl (fun ls hl => ?_)
    refine lv_aload_nN hx hb dX8_get_6 rfl (lv_at hl 0 rfl) ?_
    refine lv_ifnullN (tgt := 26) hx hb dX8_get_7 (by decide) ?_
    refine lv_ldc2 (v := (-9223372036854775808 : Int64)) hx hb hown (hta _ mw_424) dX8_get_26 ?_
    have h9 := Option.some.inj h
    have e9 : (-9223372036854775808 : Int64) = r0 := congrArg (fun z9 => z9) h9
    rw [← e9]
    exact k_lret hx hb hr hlocks hP hS rfl dX8_get_29
  have hb1 : x1 < 6 := by omega
  refine k_VqU (n := 1) (As := [.int p0]) (rest := []) hx hb hml hown hts (c_X8_holderAt l G cI cJ cD cH s.heap.size h_t h_t_holders h_t_desk h_t_imageDesk h_t_deeds h_t_numbers h_t_tape h_t_reader h_t_speller d_t_holders q_t_holders a_t_holders t_holders_sort t_holders_tree t_holders_limit t_holders_above t_holders_size t_imageKept p0 x1 hx1) gX8_get_X8_holderAt rfl rfl rfl (by decide +kernel) ⟨by first | exact Nat.le_of_ble_eq_true rfl | (simp only [headSpec]; omega), by first | exact Nat.le_of_ble_eq_true rfl | (simp only [headSpec]; omega)⟩ hK hP hD hS hA [0, 1, 2, 3, 4, 5, 6, 7, 8, 9, 10, 11, 12, 13] (by decide) rfl (ci := 7) rfl rfl rfl rfl rfl hl.1 (Nat.le_of_ble_eq_true rfl) dX8_get_2 ⟨Nat.zero_le _, Nat.zero_le _⟩ (fun hp1 H locs hP hS => ?_)
  refine W.eq (g2 := F0 m 5 ls [.ref (d_t_holders x1)]) (by rw [if_neg hd1]; rfl) ?_
  have h := it_n h hd1
  refine lv_astore_n (lv' := [(3, .ref (d_t_holders x1)), (0, .ref h_t), (1, .int p0), (2, .int p1)]) hx hb dX8_get_5 rfl hl (by decide) rfl (fun ls hl => ?_)
  refine lv_aload_n hx hb dX8_get_6 rfl (lv_at hl 0 rfl) ?_
  refine lv_ifnull hx hb dX8_get_7 ?_
  refine lv_aload_n hx hb dX8_get_10 rfl (lv_at hl 0 rfl) ?_
  refine va_get (D := G) (fs := [.int (t_holders_sort x1), .long (t_holders_tree x1), .int (t_holders_limit x1), .ref (q_t_holders x1), .long (t_holders_above x1), .int (t_holders_size x1)]) (ci := 2) (v := .int (t_holders_sort x1)) (C := RX2) (T := TX2) (N := 6) hx hb hts hinX2 hown hK hP (2 + 2 * x1) (by obtain rfl | rfl | rfl | rfl | rfl | rfl := k_lt6 hb1 <;> rfl) rfl 0 (by decide) (hta _ mw_572) (fun _ h9 => h9) rfl dX8_get_11 ?_
  refine lv_iconst (v := (3 : Int32)) hx hb dX8_get_14 (by decide) ?_
  refine lv_icmp_ne (tgt := 26) hx hb dX8_get_15 (by decide) (fun c2 => ?_) (fun c2 => ?_)
  · have h := it_n h c2
    refine lv_ldc2 (v := (-9223372036854775808 : Int64)) hx hb hown (hta _ mw_424) dX8_get_26 ?_
    have h9 := Option.some.inj h
    have e9 : (-9223372036854775808 : Int64) = r0 := congrArg (fun z9 => z9) h9
    rw [← e9]
    exact k_lret hx hb hr hlocks hP hS rfl dX8_get_29
  have h := it_p h c2
  refine lv_aload_n hx hb dX8_get_18 rfl (lv_at hl 0 rfl) ?_
  refine lv_iload_n hx hb dX8_get_19 rfl (lv_at hl 3 rfl) ?_
  obtain ⟨x3, hx3, h⟩ := bd_e h
  try dsimp only at h
  refine k_ViU (n := 1) (As := [.int p1]) (rest := []) hx hb hml hown hts (c_X2_hasPlace l G cI cJ cD cH H.size (d_t_holders x1) (q_t_holders x1) (t_holders_sort x1) (t_holders_tree x1) (t_holders_limit x1) (t_holders_above x1) (t_holders_size x1) p1 x3 hx3) gX8_get_X2_hasPlace rfl rfl rfl (by decide +kernel) ⟨by first | exact Nat.le_of_ble_eq_true rfl | (simp only [headSpec]; omega), by first | exact Nat.le_of_ble_eq_true rfl | (simp only [headSpec]; omega)⟩ hK hP hD hS hA [(2 + 2 * x1)] (by obtain rfl | rfl | rfl | rfl | rfl | rfl := k_lt6 hb1 <;> decide) (by obtain rfl | rfl | rfl | rfl | rfl | rfl := k_lt6 hb1 <;> rfl) (ci := 2) rfl rfl rfl rfl rfl hl.1 (Nat.le_of_ble_eq_true rfl) dX8_get_20 ⟨Nat.zero_le _, Nat.zero_le _⟩ (fun hp3 H locs hP hS => ?_)
  refine lv_if_ne (tgt := 30) hx hb dX8_get_23 (by decide) (fun c4 => ?_) (fun c4 => ?_)
  rotate_left
  · have h := it_p h c4
    refine lv_ldc2 (v := (-9223372036854775808 : Int64)) hx hb hown (hta _ mw_424) dX8_get_26 ?_
    have h9 := Option.some.inj h
    have e9 : (-9223372036854775808 : Int64) = r0 := congrArg (fun z9 => z9) h9
    rw [← e9]
    exact k_lret hx hb hr hlocks hP hS rfl dX8_get_29
  have h := it_n h c4
  refine lv_aload_n hx hb dX8_get_30 rfl (lv_at hl 0 rfl) ?_
  refine va_get (D := G) (fs := [.int (t_holders_sort x1), .long (t_holders_tree x1), .int (t_holders_limit x1), .ref (q_t_holders x1), .long (t_holders_above x1), .int (t_holders_size x1)]) (ci := 2) (v := .ref (q_t_holders x1)) (C := RX2) (T := TX2) (N := 6) hx hb hts hinX2 hown hK hP (2 + 2 * x1) (by obtain rfl | rfl | rfl | rfl | rfl | rfl := k_lt6 hb1 <;> rfl) rfl 3 (by decide) (hta _ mw_591) (fun _ h9 => h9) rfl dX8_get_31 ?_
  refine lv_iload_n hx hb dX8_get_34 rfl (lv_at hl 3 rfl) ?_
  obtain ⟨hn5, h⟩ := ck_e h
  refine va_iald (cA := cI) (n := 20) (f := (a_t_holders x1)) hx hb hK hP (3 + 2 * x1) 0 (by obtain rfl | rfl | rfl | rfl | rfl | rfl := k_lt6 hb1 <;> rfl) rfl hn5 dX8_get_35 ?_
  refine lv_i2l (v := ((a_t_holders x1) p1.toNatClampNeg).toInt64) hx hb dX8_get_36 (by first | rfl | decide) ?_
  have h9 := Option.some.inj h
  have e9 : ((a_t_holders x1) p1.toNatClampNeg).toInt64 = r0 := congrArg (fun z9 => z9) h9
  rw [← e9]
  exact k_lret hx hb hr hlocks hP hS rfl dX8_get_37

/-! X8_judge -/
set_option maxHeartbeats 40000000 in
set_option maxRecDepth 100000 in
theorem c_X8_judge (l : Launch) (G : va_G) (cI cJ cD cH : ClassId) (sz : Nat) (h_t : Nat) (h_t_holders : Nat) (h_t_desk : Nat) (h_t_imageDesk : Nat) (h_t_deeds : Nat) (h_t_numbers : Nat) (h_t_tape : Nat) (h_t_reader : Nat) (h_t_speller : Nat) (h_t_desk_powers : Nat) (d_t_holders : Nat → Nat) (q_t_holders : Nat → Nat) (a_t_holders : Nat → Nat → Int32) (t_holders_sort : Nat → Int32) (t_holders_tree : Nat → Int64) (t_holders_limit : Nat → Int32) (t_holders_above : Nat → Int64) (t_holders_size : Nat → Int32) (t_imageKept : Int32) (t_desk_genus : Int32) (t_desk_size : Int32) (t_desk_limit : Int32) (t_desk_tree : Int64) (p0 : Int32) (r0 : Int32) (hF : F_X8_judge a_t_holders t_holders_sort t_holders_size t_desk_tree p0 = some r0) : Met l yX8_judge wsX8_judge ({ frames := 3, cells := 0, slots := 0, locals := 71 }) (k_pre G (k_T cI cJ cD cH) [(h_t, .inr (7, [.ref h_t_desk, .ref h_t_imageDesk, .ref h_t_deeds, .ref h_t_numbers, .ref h_t_tape, .ref h_t_reader, .ref h_t_speller, .ref h_t_holders, .int t_imageKept])), (h_t_holders, .inl (cH, 6, .inr (.inr (.inr (.inr (fun i => some (d_t_holders i))))))), ((d_t_holders 0), .inr (2, [.int (t_holders_sort 0), .long (t_holders_tree 0), .int (t_holders_limit 0), .ref (q_t_holders 0), .long (t_holders_above 0), .int (t_holders_size 0)])), ((q_t_holders 0), .inl (cI, 20, .inl (a_t_holders 0))), ((d_t_holders 1), .inr (2, [.int (t_holders_sort 1), .long (t_holders_tree 1), .int (t_holders_limit 1), .ref (q_t_holders 1), .long (t_holders_above 1), .int (t_holders_size 1)])), ((q_t_holders 1), .inl (cI, 20, .inl (a_t_holders 1))), ((d_t_holders 2), .inr (2, [.int (t_holders_sort 2), .long (t_holders_tree 2), .int (t_holders_limit 2), .ref (q_t_holders 2), .long (t_holders_above 2), .int (t_holders_size 2)])), ((q_t_holders 2), .inl (cI, 20, .inl (a_t_holders 2))), ((d_t_holders 3), .inr (2, [.int (t_holders_sort 3), .long (t_holders_tree 3), .int (t_holders_limit 3), .ref (q_t_holders 3), .long (t_holders_above 3), .int (t_holders_size 3)])), ((q_t_holders 3), .inl (cI, 20, .inl (a_t_holders 3))), ((d_t_holders 4), .inr (2, [.int (t_holders_sort 4), .long (t_holders_tree 4), .int (t_holders_limit 4), .ref (q_t_holders 4), .long (t_holders_above 4), .int (t_holders_size 4)])), ((q_t_holders 4), .inl (cI, 20, .inl (a_t_holders 4))), ((d_t_holders 5), .inr (2, [.int (t_holders_sort 5), .long (t_holders_tree 5), .int (t_holders_limit 5), .ref (q_t_holders 5), .long (t_holders_above 5), .int (t_holders_size 5)])), ((q_t_holders 5), .inl (cI, 20, .inl (a_t_holders 5))), (h_t_desk, .inr (1, [.int t_desk_genus, .int t_desk_size, .ref h_t_desk_powers, .int t_desk_limit, .long t_desk_tree]))] sz [.ref h_t, .int p0]) (va_Qi (fun r (_ : Unit) => r = r0 ∧ True) (fun _ t => va_P G vwCl [(h_t, .inr (7, [.ref h_t_desk, .ref h_t_imageDesk, .ref h_t_deeds, .ref h_t_numbers, .ref h_t_tape, .ref h_t_reader, .ref h_t_speller, .ref h_t_holders, .int t_imageKept])), (h_t_holders, .inl (cH, 6, .inr (.inr (.inr (.inr (fun i => some (d_t_holders i))))))), ((d_t_holders 0), .inr (2, [.int (t_holders_sort 0), .long (t_holders_tree 0), .int (t_holders_limit 0), .ref (q_t_holders 0), .long (t_holders_above 0), .int (t_holders_size 0)])), ((q_t_holders 0), .inl (cI, 20, .inl (a_t_holders 0))), ((d_t_holders 1), .inr (2, [.int (t_holders_sort 1), .long (t_holders_tree 1), .int (t_holders_limit 1), .ref (q_t_holders 1), .long (t_holders_above 1), .int (t_holders_size 1)])), ((q_t_holders 1), .inl (cI, 20, .inl (a_t_holders 1))), ((d_t_holders 2), .inr (2, [.int (t_holders_sort 2), .long (t_holders_tree 2), .int (t_holders_limit 2), .ref (q_t_holders 2), .long (t_holders_above 2), .int (t_holders_size 2)])), ((q_t_holders 2), .inl (cI, 20, .inl (a_t_holders 2))), ((d_t_holders 3), .inr (2, [.int (t_holders_sort 3), .long (t_holders_tree 3), .int (t_holders_limit 3), .ref (q_t_holders 3), .long (t_holders_above 3), .int (t_holders_size 3)])), ((q_t_holders 3), .inl (cI, 20, .inl (a_t_holders 3))), ((d_t_holders 4), .inr (2, [.int (t_holders_sort 4), .long (t_holders_tree 4), .int (t_holders_limit 4), .ref (q_t_holders 4), .long (t_holders_above 4), .int (t_holders_size 4)])), ((q_t_holders 4), .inl (cI, 20, .inl (a_t_holders 4))), ((d_t_holders 5), .inr (2, [.int (t_holders_sort 5), .long (t_holders_tree 5), .int (t_holders_limit 5), .ref (q_t_holders 5), .long (t_holders_above 5), .int (t_holders_size 5)])), ((q_t_holders 5), .inl (cI, 20, .inl (a_t_holders 5))), (h_t_desk, .inr (1, [.int t_desk_genus, .int t_desk_size, .ref h_t_desk_powers, .int t_desk_limit, .long t_desk_tree]))] t.heap) (va_A [(h_t, .inr (7, [.ref h_t_desk, .ref h_t_imageDesk, .ref h_t_deeds, .ref h_t_numbers, .ref h_t_tape, .ref h_t_reader, .ref h_t_speller, .ref h_t_holders, .int t_imageKept])), (h_t_holders, .inl (cH, 6, .inr (.inr (.inr (.inr (fun i => some (d_t_holders i))))))), ((d_t_holders 0), .inr (2, [.int (t_holders_sort 0), .long (t_holders_tree 0), .int (t_holders_limit 0), .ref (q_t_holders 0), .long (t_holders_above 0), .int (t_holders_size 0)])), ((q_t_holders 0), .inl (cI, 20, .inl (a_t_holders 0))), ((d_t_holders 1), .inr (2, [.int (t_holders_sort 1), .long (t_holders_tree 1), .int (t_holders_limit 1), .ref (q_t_holders 1), .long (t_holders_above 1), .int (t_holders_size 1)])), ((q_t_holders 1), .inl (cI, 20, .inl (a_t_holders 1))), ((d_t_holders 2), .inr (2, [.int (t_holders_sort 2), .long (t_holders_tree 2), .int (t_holders_limit 2), .ref (q_t_holders 2), .long (t_holders_above 2), .int (t_holders_size 2)])), ((q_t_holders 2), .inl (cI, 20, .inl (a_t_holders 2))), ((d_t_holders 3), .inr (2, [.int (t_holders_sort 3), .long (t_holders_tree 3), .int (t_holders_limit 3), .ref (q_t_holders 3), .long (t_holders_above 3), .int (t_holders_size 3)])), ((q_t_holders 3), .inl (cI, 20, .inl (a_t_holders 3))), ((d_t_holders 4), .inr (2, [.int (t_holders_sort 4), .long (t_holders_tree 4), .int (t_holders_limit 4), .ref (q_t_holders 4), .long (t_holders_above 4), .int (t_holders_size 4)])), ((q_t_holders 4), .inl (cI, 20, .inl (a_t_holders 4))), ((d_t_holders 5), .inr (2, [.int (t_holders_sort 5), .long (t_holders_tree 5), .int (t_holders_limit 5), .ref (q_t_holders 5), .long (t_holders_above 5), .int (t_holders_size 5)])), ((q_t_holders 5), .inl (cI, 20, .inl (a_t_holders 5))), (h_t_desk, .inr (1, [.int t_desk_genus, .int t_desk_size, .ref h_t_desk_powers, .int t_desk_limit, .long t_desk_tree]))] sz)) 0 0 (va_A [(h_t, .inr (7, [.ref h_t_desk, .ref h_t_imageDesk, .ref h_t_deeds, .ref h_t_numbers, .ref h_t_tape, .ref h_t_reader, .ref h_t_speller, .ref h_t_holders, .int t_imageKept])), (h_t_holders, .inl (cH, 6, .inr (.inr (.inr (.inr (fun i => some (d_t_holders i))))))), ((d_t_holders 0), .inr (2, [.int (t_holders_sort 0), .long (t_holders_tree 0), .int (t_holders_limit 0), .ref (q_t_holders 0), .long (t_holders_above 0), .int (t_holders_size 0)])), ((q_t_holders 0), .inl (cI, 20, .inl (a_t_holders 0))), ((d_t_holders 1), .inr (2, [.int (t_holders_sort 1), .long (t_holders_tree 1), .int (t_holders_limit 1), .ref (q_t_holders 1), .long (t_holders_above 1), .int (t_holders_size 1)])), ((q_t_holders 1), .inl (cI, 20, .inl (a_t_holders 1))), ((d_t_holders 2), .inr (2, [.int (t_holders_sort 2), .long (t_holders_tree 2), .int (t_holders_limit 2), .ref (q_t_holders 2), .long (t_holders_above 2), .int (t_holders_size 2)])), ((q_t_holders 2), .inl (cI, 20, .inl (a_t_holders 2))), ((d_t_holders 3), .inr (2, [.int (t_holders_sort 3), .long (t_holders_tree 3), .int (t_holders_limit 3), .ref (q_t_holders 3), .long (t_holders_above 3), .int (t_holders_size 3)])), ((q_t_holders 3), .inl (cI, 20, .inl (a_t_holders 3))), ((d_t_holders 4), .inr (2, [.int (t_holders_sort 4), .long (t_holders_tree 4), .int (t_holders_limit 4), .ref (q_t_holders 4), .long (t_holders_above 4), .int (t_holders_size 4)])), ((q_t_holders 4), .inl (cI, 20, .inl (a_t_holders 4))), ((d_t_holders 5), .inr (2, [.int (t_holders_sort 5), .long (t_holders_tree 5), .int (t_holders_limit 5), .ref (q_t_holders 5), .long (t_holders_above 5), .int (t_holders_size 5)])), ((q_t_holders 5), .inl (cI, 20, .inl (a_t_holders 5))), (h_t_desk, .inr (1, [.int t_desk_genus, .int t_desk_size, .ref h_t_desk_powers, .int t_desk_limit, .long t_desk_tree]))] sz) := by
  refine Met.ofW (cc := cX8_judge) (maxL := 5) (ret := (some .int)) (by decide) rfl ?_
  intro p e s m args below meth c s₁ B hml hv
  obtain ⟨rfl, hsz, hP, hK, hD0⟩ := hv
  have hx := B.exec
  have hb := B.bytes
  have hr := B.returns
  have hts := atoms_spec (ws := wsX8_judge) B.pre
  have hta : ∀ w ∈ wA, w.before ([.ref h_t, .int p0] : List Value).toArray s = true := hta_of hts
  have hown : s.vm.findClass RX8 = some m.cls := findClass_of_methodNamed B.named
  have hlocks := B.notSynchronized
  subst hsz
  have hD := hD0.self (sz := s.heap.size)
  generalize hAe : va_A [(h_t, .inr (7, [.ref h_t_desk, .ref h_t_imageDesk, .ref h_t_deeds, .ref h_t_numbers, .ref h_t_tape, .ref h_t_reader, .ref h_t_speller, .ref h_t_holders, .int t_imageKept])), (h_t_holders, .inl (cH, 6, .inr (.inr (.inr (.inr (fun i => some (d_t_holders i))))))), ((d_t_holders 0), .inr (2, [.int (t_holders_sort 0), .long (t_holders_tree 0), .int (t_holders_limit 0), .ref (q_t_holders 0), .long (t_holders_above 0), .int (t_holders_size 0)])), ((q_t_holders 0), .inl (cI, 20, .inl (a_t_holders 0))), ((d_t_holders 1), .inr (2, [.int (t_holders_sort 1), .long (t_holders_tree 1), .int (t_holders_limit 1), .ref (q_t_holders 1), .long (t_holders_above 1), .int (t_holders_size 1)])), ((q_t_holders 1), .inl (cI, 20, .inl (a_t_holders 1))), ((d_t_holders 2), .inr (2, [.int (t_holders_sort 2), .long (t_holders_tree 2), .int (t_holders_limit 2), .ref (q_t_holders 2), .long (t_holders_above 2), .int (t_holders_size 2)])), ((q_t_holders 2), .inl (cI, 20, .inl (a_t_holders 2))), ((d_t_holders 3), .inr (2, [.int (t_holders_sort 3), .long (t_holders_tree 3), .int (t_holders_limit 3), .ref (q_t_holders 3), .long (t_holders_above 3), .int (t_holders_size 3)])), ((q_t_holders 3), .inl (cI, 20, .inl (a_t_holders 3))), ((d_t_holders 4), .inr (2, [.int (t_holders_sort 4), .long (t_holders_tree 4), .int (t_holders_limit 4), .ref (q_t_holders 4), .long (t_holders_above 4), .int (t_holders_size 4)])), ((q_t_holders 4), .inl (cI, 20, .inl (a_t_holders 4))), ((d_t_holders 5), .inr (2, [.int (t_holders_sort 5), .long (t_holders_tree 5), .int (t_holders_limit 5), .ref (q_t_holders 5), .long (t_holders_above 5), .int (t_holders_size 5)])), ((q_t_holders 5), .inl (cI, 20, .inl (a_t_holders 5))), (h_t_desk, .inr (1, [.int t_desk_genus, .int t_desk_size, .ref h_t_desk_powers, .int t_desk_limit, .long t_desk_tree]))] s.heap.size = A at hD ⊢
  have hA : ∀ q : Nat, s.heap.size ≤ q → A q := fun q h => by rw [← hAe]; exact Or.inr h
  have hS : va_S A s.heap s.heap [] := va_S.rf
  have hl := lv_entry ([.ref h_t, .int p0]) (n := 5) (Nat.le_of_ble_eq_true rfl)
  rw [lg_entry_eq]
  generalize (lg_sl ([.ref h_t, .int p0]) ++ List.replicate (5 - (lg_sl ([.ref h_t, .int p0])).length) Slot.unset).toArray = ls at hl ⊢
  have hl : lv_has ls 5 [(0, .ref h_t), (1, .int p0)] := hl
  have hinX1 : ∀ w ∈ wsX10, w ∈ wsX8_judge := hin_of in_X1
  have hinX8 : ∀ w ∈ wsX80, w ∈ wsX8_judge := hin_of in_X8
  have h := hF
  unfold F_X8_judge at h
  refine lv_aload_n hx hb dX8_judge_0 rfl (lv_at hl 0 rfl) ?_
  refine lv_iload_n hx hb dX8_judge_1 rfl (lv_at hl 1 rfl) ?_
  obtain ⟨x1, hx1, h⟩ := bd_e h
  try dsimp only at h
  have hc1 := k_lt_X8_holderAt hx1
  by_cases hd1 : x1 = 6
  · subst hd1
    refine k_VqU (n := 1) (As := [.int p0]) (rest := []) hx hb hml hown hts (c_X8_holderAt l G cI cJ cD cH s.heap.size h_t h_t_holders h_t_desk h_t_imageDesk h_t_deeds h_t_numbers h_t_tape h_t_reader h_t_speller d_t_holders q_t_holders a_t_holders t_holders_sort t_holders_tree t_holders_limit t_holders_above t_holders_size t_imageKept p0 6 hx1) gX8_judge_X8_holderAt rfl rfl rfl (by decide +kernel) ⟨by first | exact Nat.le_of_ble_eq_true rfl | (simp only [headSpec]; omega), by first | exact Nat.le_of_ble_eq_true rfl | (simp only [headSpec]; omega)⟩ hK hP hD hS hA [0, 1, 2, 3, 4, 5, 6, 7, 8, 9, 10, 11, 12, 13] (by decide) rfl (ci := 7) rfl rfl rfl rfl rfl hl.1 (Nat.le_of_ble_eq_true rfl) dX8_judge_2 ⟨Nat.zero_le _, Nat.zero_le _⟩ (fun hp1 H locs hP hS => ?_)
    refine W.eq (g2 := F0 m 5 ls [.null]) rfl ?_
    have h := it_p h rfl
    refine lv_astore_nN (lv' := [(2, .null), (0, .ref h_t), (1, .int p0)]) hx hb dX8_judge_5 rfl hl (by decide) rfl (fun ls hl => ?_)
    refine lv_aload_nN hx hb dX8_judge_6 rfl (lv_at hl 0 rfl) ?_
    refine lv_iconst (v := (3 : Int32)) hx hb dX8_judge_7 (by decide) ?_
    obtain ⟨x6, hx6, h⟩ := bd_e h
    try dsimp only at h
    refine k_SiU (n := 2) (As := [.null, .int (3 : Int32)]) (rest := []) hx hb hml hown hts (c_X8_refusalOfN l G cI cJ cD cH H.size (3 : Int32) x6 hx6) gX8_judge_X8_refusalOf rfl rfl rfl (by decide +kernel) ⟨by first | exact Nat.le_of_ble_eq_true rfl | (simp only [headSpec]; omega), by first | exact Nat.le_of_ble_eq_true rfl | (simp only [headSpec]; omega)⟩ hK hP hD hS hA [] (by decide) rfl rfl rfl hl.1 (Nat.le_of_ble_eq_true rfl) dX8_judge_8 ⟨Nat.zero_le _, Nat.zero_le _⟩ (fun hp6 H locs hP hS => ?_)
    refine lv_istore_n (lv' := [(3, .int x6), (2, .null), (0, .ref h_t), (1, .int p0)]) hx hb dX8_judge_11 rfl hl (by decide) rfl (fun ls hl => ?_)
    refine lv_aload_nN hx hb dX8_judge_12 rfl (lv_at hl 1 rfl) ?_
    refine lv_ifnullN (tgt := 20) hx hb dX8_judge_13 (by decide) ?_
    refine lv_iload_n hx hb dX8_judge_20 rfl (lv_at hl 0 rfl) ?_
    have h9 := Option.some.inj h
    have e9 : x6 = r0 := congrArg (fun z9 => z9) h9
    rw [← e9]
    exact k_iret hx hb hr hlocks hP hS rfl dX8_judge_21
  have hb1 : x1 < 6 := by omega
  refine k_VqU (n := 1) (As := [.int p0]) (rest := []) hx hb hml hown hts (c_X8_holderAt l G cI cJ cD cH s.heap.size h_t h_t_holders h_t_desk h_t_imageDesk h_t_deeds h_t_numbers h_t_tape h_t_reader h_t_speller d_t_holders q_t_holders a_t_holders t_holders_sort t_holders_tree t_holders_limit t_holders_above t_holders_size t_imageKept p0 x1 hx1) gX8_judge_X8_holderAt rfl rfl rfl (by decide +kernel) ⟨by first | exact Nat.le_of_ble_eq_true rfl | (simp only [headSpec]; omega), by first | exact Nat.le_of_ble_eq_true rfl | (simp only [headSpec]; omega)⟩ hK hP hD hS hA [0, 1, 2, 3, 4, 5, 6, 7, 8, 9, 10, 11, 12, 13] (by decide) rfl (ci := 7) rfl rfl rfl rfl rfl hl.1 (Nat.le_of_ble_eq_true rfl) dX8_judge_2 ⟨Nat.zero_le _, Nat.zero_le _⟩ (fun hp1 H locs hP hS => ?_)
  refine W.eq (g2 := F0 m 5 ls [.ref (d_t_holders x1)]) (by rw [if_neg hd1]; rfl) ?_
  have h := it_n h hd1
  refine lv_astore_n (lv' := [(2, .ref (d_t_holders x1)), (0, .ref h_t), (1, .int p0)]) hx hb dX8_judge_5 rfl hl (by decide) rfl (fun ls hl => ?_)
  refine lv_aload_n hx hb dX8_judge_6 rfl (lv_at hl 0 rfl) ?_
  refine lv_iconst (v := (3 : Int32)) hx hb dX8_judge_7 (by decide) ?_
  obtain ⟨x2, hx2, h⟩ := bd_e h
  try dsimp only at h
  refine k_SiU (n := 2) (As := [.ref (d_t_holders x1), .int (3 : Int32)]) (rest := []) hx hb hml hown hts (c_X8_refusalOf l G cI cJ cD cH H.size (d_t_holders x1) (q_t_holders x1) (t_holders_sort x1) (t_holders_tree x1) (t_holders_limit x1) (t_holders_above x1) (t_holders_size x1) (3 : Int32) x2 hx2) gX8_judge_X8_refusalOf rfl rfl rfl (by decide +kernel) ⟨by first | exact Nat.le_of_ble_eq_true rfl | (simp only [headSpec]; omega), by first | exact Nat.le_of_ble_eq_true rfl | (simp only [headSpec]; omega)⟩ hK hP hD hS hA [(2 + 2 * x1)] (by obtain rfl | rfl | rfl | rfl | rfl | rfl := k_lt6 hb1 <;> decide) (by obtain rfl | rfl | rfl | rfl | rfl | rfl := k_lt6 hb1 <;> rfl) rfl rfl hl.1 (Nat.le_of_ble_eq_true rfl) dX8_judge_8 ⟨Nat.zero_le _, Nat.zero_le _⟩ (fun hp2 H locs hP hS => ?_)
  refine lv_istore_n (lv' := [(3, .int x2), (2, .ref (d_t_holders x1)), (0, .ref h_t), (1, .int p0)]) hx hb dX8_judge_11 rfl hl (by decide) rfl (fun ls hl => ?_)
  refine lv_aload_n hx hb dX8_judge_12 rfl (lv_at hl 1 rfl) ?_
  refine lv_ifnull hx hb dX8_judge_13 ?_
  refine lv_iload_n hx hb dX8_judge_16 rfl (lv_at hl 0 rfl) ?_
  refine lv_if_eq (tgt := 22) hx hb dX8_judge_17 (by decide) (fun c3 => ?_) (fun c3 => ?_)
  rotate_left
  · have h := it_n h c3
    refine lv_iload_n hx hb dX8_judge_20 rfl (lv_at hl 0 rfl) ?_
    have h9 := Option.some.inj h
    have e9 : x2 = r0 := congrArg (fun z9 => z9) h9
    rw [← e9]
    exact k_iret hx hb hr hlocks hP hS rfl dX8_judge_21
  have h := it_p h c3
  refine lv_aload_n hx hb dX8_judge_22 rfl (lv_at hl 1 rfl) ?_
  refine lv_aload_n hx hb dX8_judge_23 rfl (lv_at hl 2 rfl) ?_
  refine va_get (D := G) (ci := 7) (v := .ref h_t_desk) (C := RX8) (T := TX8) (N := 9) hx hb hts hinX8 hown hK hP 0 rfl rfl 0 (by decide) (hta _ mw_358) (fun _ h9 => h9) rfl dX8_judge_24 ?_
  refine va_get (D := G) (ci := 1) (v := .long t_desk_tree) (C := RX1) (T := TX1) (N := 5) hx hb hts hinX1 hown hK hP 14 rfl rfl 4 (by decide) (hta _ mw_480) (fun _ h9 => h9) rfl dX8_judge_27 ?_
  obtain ⟨x4, hx4, h⟩ := bd_e h
  try dsimp only at h
  refine k_ViU (n := 1) (As := [.long t_desk_tree]) (rest := []) hx hb hml hown hts (c_X2_firstUnlike l G cI cJ cD cH H.size (d_t_holders x1) (q_t_holders x1) (t_holders_sort x1) (t_holders_tree x1) (t_holders_limit x1) (t_holders_above x1) (t_holders_size x1) (a_t_holders x1) t_desk_tree x4 hx4) gX8_judge_X2_firstUnlike rfl rfl rfl (by decide +kernel) ⟨by first | exact Nat.le_of_ble_eq_true rfl | (simp only [headSpec]; omega), by first | exact Nat.le_of_ble_eq_true rfl | (simp only [headSpec]; omega)⟩ hK hP hD hS hA [(2 + 2 * x1), (3 + 2 * x1)] (by obtain rfl | rfl | rfl | rfl | rfl | rfl := k_lt6 hb1 <;> decide) (by obtain rfl | rfl | rfl | rfl | rfl | rfl := k_lt6 hb1 <;> rfl) (ci := 2) rfl rfl rfl rfl rfl hl.1 (Nat.le_of_ble_eq_true rfl) dX8_judge_30 ⟨Nat.zero_le _, Nat.zero_le _⟩ (fun hp4 H locs hP hS => ?_)
  refine lv_istore (lv' := [(4, .int x4), (3, .int x2), (2, .ref (d_t_holders x1)), (0, .ref h_t), (1, .int p0)]) hx hb dX8_judge_33 hl (by decide) rfl (fun ls hl => ?_)
  refine lv_iload hx hb dX8_judge_35 (lv_at hl 0 rfl) ?_
  refine lv_iconst (v := (-1 : Int32)) hx hb dX8_judge_37 (by decide) ?_
  refine lv_icmp_ne (tgt := 46) hx hb dX8_judge_38 (by decide) (fun c5 => ?_) (fun c5 => ?_)
  · have h := it_n h c5
    refine lv_iload hx hb dX8_judge_46 (lv_at hl 0 rfl) ?_
    have h9 := Option.some.inj h
    have e9 : x4 = r0 := congrArg (fun z9 => z9) h9
    rw [← e9]
    exact k_iret hx hb hr hlocks hP hS rfl dX8_judge_48
  have h := it_p h c5
  refine lv_bipush (v := (-2 : Int32)) hx hb dX8_judge_41 (by decide) ?_
  refine lv_goto (tgt := 48) hx hb dX8_judge_43 (by decide) ?_
  have h9 := Option.some.inj h
  have e9 : (-2 : Int32) = r0 := congrArg (fun z9 => z9) h9
  rw [← e9]
  exact k_iret hx hb hr hlocks hP hS rfl dX8_judge_48

/-! X8_image -/
set_option maxHeartbeats 4000000 in
set_option maxRecDepth 100000 in
theorem c_X8_image (l : Launch) (G : va_G) (cI cJ cD cH : ClassId) (sz : Nat) (h_t : Nat) (h_t_imageDesk : Nat) (h_t_desk : Nat) (h_t_imageDesk_powers : Nat) (h_t_desk_powers : Nat) (h_t_deeds : Nat) (h_t_numbers : Nat) (h_t_tape : Nat) (h_t_reader : Nat) (h_t_speller : Nat) (h_t_holders : Nat) (t_imageKept : Int32) (t_imageDesk_genus : Int32) (t_imageDesk_size : Int32) (t_imageDesk_limit : Int32) (t_imageDesk_tree : Int64) (t_desk_genus : Int32) (t_desk_size : Int32) (t_desk_limit : Int32) (t_desk_tree : Int64) (a_t_imageDesk_powers : Nat → Int32) (a_t_desk_powers : Nat → Int32) (r0 : Int32) (w0 : Nat → Int32) (w1 : Int32) (w2 : Int32) (w3 : Int32) (w4 : Int32) (w5 : Int64) (hF : F_X8_image t_desk_genus t_desk_size t_desk_limit t_desk_tree a_t_imageDesk_powers a_t_desk_powers = some (r0, w0, w1, w2, w3, w4, w5)) : Met l yX8_image wsX8_image ({ frames := 1, cells := 0, slots := 0, locals := 22 }) (k_pre G (k_T cI cJ cD cH) [(h_t, .inr (7, [.ref h_t_desk, .ref h_t_imageDesk, .ref h_t_deeds, .ref h_t_numbers, .ref h_t_tape, .ref h_t_reader, .ref h_t_speller, .ref h_t_holders, .int t_imageKept])), (h_t_imageDesk, .inr (1, [.int t_imageDesk_genus, .int t_imageDesk_size, .ref h_t_imageDesk_powers, .int t_imageDesk_limit, .long t_imageDesk_tree])), (h_t_desk, .inr (1, [.int t_desk_genus, .int t_desk_size, .ref h_t_desk_powers, .int t_desk_limit, .long t_desk_tree])), (h_t_imageDesk_powers, .inl (cI, 8, .inl a_t_imageDesk_powers)), (h_t_desk_powers, .inl (cI, 8, .inl a_t_desk_powers))] sz [.ref h_t]) (va_Qi (fun r (_ : Unit) => r = r0 ∧ True) (fun _ t => va_P G vwCl [(h_t, .inr (7, [.ref h_t_desk, .ref h_t_imageDesk, .ref h_t_deeds, .ref h_t_numbers, .ref h_t_tape, .ref h_t_reader, .ref h_t_speller, .ref h_t_holders, .int w1])), (h_t_imageDesk, .inr (1, [.int w2, .int w3, .ref h_t_imageDesk_powers, .int w4, .long w5])), (h_t_desk, .inr (1, [.int t_desk_genus, .int t_desk_size, .ref h_t_desk_powers, .int t_desk_limit, .long t_desk_tree])), (h_t_imageDesk_powers, .inl (cI, 8, .inl w0)), (h_t_desk_powers, .inl (cI, 8, .inl a_t_desk_powers))] t.heap) (va_A [(h_t, .inr (7, [.ref h_t_desk, .ref h_t_imageDesk, .ref h_t_deeds, .ref h_t_numbers, .ref h_t_tape, .ref h_t_reader, .ref h_t_speller, .ref h_t_holders, .int t_imageKept])), (h_t_imageDesk, .inr (1, [.int t_imageDesk_genus, .int t_imageDesk_size, .ref h_t_imageDesk_powers, .int t_imageDesk_limit, .long t_imageDesk_tree])), (h_t_desk, .inr (1, [.int t_desk_genus, .int t_desk_size, .ref h_t_desk_powers, .int t_desk_limit, .long t_desk_tree])), (h_t_imageDesk_powers, .inl (cI, 8, .inl a_t_imageDesk_powers)), (h_t_desk_powers, .inl (cI, 8, .inl a_t_desk_powers))] sz)) 0 0 (va_A [(h_t, .inr (7, [.ref h_t_desk, .ref h_t_imageDesk, .ref h_t_deeds, .ref h_t_numbers, .ref h_t_tape, .ref h_t_reader, .ref h_t_speller, .ref h_t_holders, .int t_imageKept])), (h_t_imageDesk, .inr (1, [.int t_imageDesk_genus, .int t_imageDesk_size, .ref h_t_imageDesk_powers, .int t_imageDesk_limit, .long t_imageDesk_tree])), (h_t_desk, .inr (1, [.int t_desk_genus, .int t_desk_size, .ref h_t_desk_powers, .int t_desk_limit, .long t_desk_tree])), (h_t_imageDesk_powers, .inl (cI, 8, .inl a_t_imageDesk_powers)), (h_t_desk_powers, .inl (cI, 8, .inl a_t_desk_powers))] sz) := by
  refine Met.ofW (cc := cX8_image) (maxL := 1) (ret := (some .int)) (by decide) rfl ?_
  intro p e s m args below meth c s₁ B hml hv
  obtain ⟨rfl, hsz, hP, hK, hD0⟩ := hv
  have hx := B.exec
  have hb := B.bytes
  have hr := B.returns
  have hts := atoms_spec (ws := wsX8_image) B.pre
  have hta : ∀ w ∈ wA, w.before ([.ref h_t] : List Value).toArray s = true := hta_of hts
  have hown : s.vm.findClass RX8 = some m.cls := findClass_of_methodNamed B.named
  have hlocks := B.notSynchronized
  subst hsz
  have hD := hD0.self (sz := s.heap.size)
  generalize hAe : va_A [(h_t, .inr (7, [.ref h_t_desk, .ref h_t_imageDesk, .ref h_t_deeds, .ref h_t_numbers, .ref h_t_tape, .ref h_t_reader, .ref h_t_speller, .ref h_t_holders, .int t_imageKept])), (h_t_imageDesk, .inr (1, [.int t_imageDesk_genus, .int t_imageDesk_size, .ref h_t_imageDesk_powers, .int t_imageDesk_limit, .long t_imageDesk_tree])), (h_t_desk, .inr (1, [.int t_desk_genus, .int t_desk_size, .ref h_t_desk_powers, .int t_desk_limit, .long t_desk_tree])), (h_t_imageDesk_powers, .inl (cI, 8, .inl a_t_imageDesk_powers)), (h_t_desk_powers, .inl (cI, 8, .inl a_t_desk_powers))] s.heap.size = A at hD ⊢
  have hA : ∀ q : Nat, s.heap.size ≤ q → A q := fun q h => by rw [← hAe]; exact Or.inr h
  have hS : va_S A s.heap s.heap [] := va_S.rf
  have hl := lv_entry ([.ref h_t]) (n := 1) (Nat.le_of_ble_eq_true rfl)
  rw [lg_entry_eq]
  generalize (lg_sl ([.ref h_t]) ++ List.replicate (1 - (lg_sl ([.ref h_t])).length) Slot.unset).toArray = ls at hl ⊢
  have hl : lv_has ls 1 [(0, .ref h_t)] := hl
  have hinX1 : ∀ w ∈ wsX10, w ∈ wsX8_image := hin_of in_X1
  have hinX8 : ∀ w ∈ wsX80, w ∈ wsX8_image := hin_of in_X8
  have h := hF
  unfold F_X8_image at h
  refine lv_aload_n hx hb dX8_image_0 rfl (lv_at hl 0 rfl) ?_
  refine va_get (D := G) (ci := 7) (v := .ref h_t_imageDesk) (C := RX8) (T := TX8) (N := 9) hx hb hts hinX8 hown hK hP 0 rfl rfl 1 (by decide) (hta _ mw_359) (fun _ h9 => h9) rfl dX8_image_1 ?_
  refine lv_aload_n hx hb dX8_image_4 rfl (lv_at hl 0 rfl) ?_
  refine va_get (D := G) (ci := 7) (v := .ref h_t_desk) (C := RX8) (T := TX8) (N := 9) hx hb hts hinX8 hown hK hP 0 rfl rfl 0 (by decide) (hta _ mw_358) (fun _ h9 => h9) rfl dX8_image_5 ?_
  obtain ⟨x1, hx1, h⟩ := bd_e h
  try dsimp only at h
  refine k_VvM (n := 1) (As := [.ref h_t_desk]) (rest := []) hx hb hml hown hts (c_X1_copyFrom l G cI cJ cD cH s.heap.size h_t_imageDesk h_t_desk h_t_imageDesk_powers h_t_desk_powers t_imageDesk_genus t_imageDesk_size t_imageDesk_limit t_imageDesk_tree t_desk_genus t_desk_size t_desk_limit t_desk_tree a_t_imageDesk_powers a_t_desk_powers (x1.1) (x1.2.1) (x1.2.2.1) (x1.2.2.2.1) (x1.2.2.2.2) hx1) gX8_image_X1_copyFrom rfl rfl rfl (by decide +kernel) ⟨by first | exact Nat.le_of_ble_eq_true rfl | (simp only [headSpec]; omega), by first | exact Nat.le_of_ble_eq_true rfl | (simp only [headSpec]; omega)⟩ hK hP hD hS hA [1, 2, 3, 4] (by decide) rfl rfl (ci := 1) rfl rfl rfl rfl rfl hl.1 (Nat.le_of_ble_eq_true rfl) dX8_image_8 ⟨Nat.zero_le _, Nat.zero_le _⟩ [(h_t, .inr (7, [.ref h_t_desk, .ref h_t_imageDesk, .ref h_t_deeds, .ref h_t_numbers, .ref h_t_tape, .ref h_t_reader, .ref h_t_speller, .ref h_t_holders, .int t_imageKept])), (h_t_imageDesk, .inr (1, [.int (x1.2.1), .int (x1.2.2.1), .ref h_t_imageDesk_powers, .int (x1.2.2.2.1), .long (x1.2.2.2.2)])), (h_t_desk, .inr (1, [.int t_desk_genus, .int t_desk_size, .ref h_t_desk_powers, .int t_desk_limit, .long t_desk_tree])), (h_t_imageDesk_powers, .inl (cI, 8, .inl (x1.1))), (h_t_desk_powers, .inl (cI, 8, .inl a_t_desk_powers))] [0, 1, 2, 3, 4] 4 (by decide +kernel) rfl rfl rfl (fun hp1 H locs hP hD hS => ?_)
  refine lv_aload_n hx hb dX8_image_11 rfl (lv_at hl 0 rfl) ?_
  refine lv_iconst (v := (1 : Int32)) hx hb dX8_image_12 (by decide) ?_
  refine va_put (D := G) (ci := 7) (v := .int (1 : Int32)) (ty := .boolean) (C := RX8) (T := TX8) (N := 9) hx hb hts hinX8 tyX8 tyX8_ok nmX8 hown hK hP hD hS 0 rfl rfl 8 (by decide) (hta _ mw_599) (fun _ h9 => h9) rfl (by decide +kernel) rfl rfl (Nat.le_of_ble_eq_true rfl) dX8_image_13 (fun H locs hP hD hS => ?_)
  have hP : va_P G vwCl [(h_t, .inr (7, [.ref h_t_desk, .ref h_t_imageDesk, .ref h_t_deeds, .ref h_t_numbers, .ref h_t_tape, .ref h_t_reader, .ref h_t_speller, .ref h_t_holders, .int (1 : Int32)])), (h_t_imageDesk, .inr (1, [.int (x1.2.1), .int (x1.2.2.1), .ref h_t_imageDesk_powers, .int (x1.2.2.2.1), .long (x1.2.2.2.2)])), (h_t_desk, .inr (1, [.int t_desk_genus, .int t_desk_size, .ref h_t_desk_powers, .int t_desk_limit, .long t_desk_tree])), (h_t_imageDesk_powers, .inl (cI, 8, .inl (x1.1))), (h_t_desk_powers, .inl (cI, 8, .inl a_t_desk_powers))] H := hP
  have hD : va_D A [(h_t, .inr (7, [.ref h_t_desk, .ref h_t_imageDesk, .ref h_t_deeds, .ref h_t_numbers, .ref h_t_tape, .ref h_t_reader, .ref h_t_speller, .ref h_t_holders, .int (1 : Int32)])), (h_t_imageDesk, .inr (1, [.int (x1.2.1), .int (x1.2.2.1), .ref h_t_imageDesk_powers, .int (x1.2.2.2.1), .long (x1.2.2.2.2)])), (h_t_desk, .inr (1, [.int t_desk_genus, .int t_desk_size, .ref h_t_desk_powers, .int t_desk_limit, .long t_desk_tree])), (h_t_imageDesk_powers, .inl (cI, 8, .inl (x1.1))), (h_t_desk_powers, .inl (cI, 8, .inl a_t_desk_powers))] := hD
  refine lv_aload_n hx hb dX8_image_16 rfl (lv_at hl 0 rfl) ?_
  refine va_get (D := G) (ci := 7) (v := .ref h_t_desk) (C := RX8) (T := TX8) (N := 9) hx hb hts hinX8 hown hK hP 0 rfl rfl 0 (by decide) (hta _ mw_358) (fun _ h9 => h9) rfl dX8_image_17 ?_
  refine va_get (D := G) (ci := 1) (v := .int t_desk_size) (C := RX1) (T := TX1) (N := 5) hx hb hts hinX1 hown hK hP 2 rfl rfl 1 (by decide) (hta _ mw_394) (fun _ h9 => h9) rfl dX8_image_20 ?_
  have h9 := Option.some.inj h
  have e9 : t_desk_size = r0 := congrArg (fun z9 => z9.1) h9
  rw [← e9]
  have e9 : (x1.1) = w0 := congrArg (fun z9 => z9.2.1) h9
  rw [← e9]
  have e9 : (1 : Int32) = w1 := congrArg (fun z9 => z9.2.2.1) h9
  rw [← e9]
  have e9 : (x1.2.1) = w2 := congrArg (fun z9 => z9.2.2.2.1) h9
  rw [← e9]
  have e9 : (x1.2.2.1) = w3 := congrArg (fun z9 => z9.2.2.2.2.1) h9
  rw [← e9]
  have e9 : (x1.2.2.2.1) = w4 := congrArg (fun z9 => z9.2.2.2.2.2.1) h9
  rw [← e9]
  have e9 : (x1.2.2.2.2) = w5 := congrArg (fun z9 => z9.2.2.2.2.2.2) h9
  rw [← e9]
  exact k_iret hx hb hr hlocks hP hS rfl dX8_image_23

/-! X8_restore -/
set_option maxHeartbeats 40000000 in
set_option maxRecDepth 100000 in
theorem c_X8_restore (l : Launch) (G : va_G) (cI cJ cD cH : ClassId) (sz : Nat) (h_t : Nat) (h_t_desk : Nat) (h_t_imageDesk : Nat) (h_t_desk_powers : Nat) (h_t_imageDesk_powers : Nat) (h_t_deeds : Nat) (h_t_deeds_desks : Nat) (h_t_numbers : Nat) (h_t_tape : Nat) (h_t_reader : Nat) (h_t_speller : Nat) (h_t_holders : Nat) (d_t_deeds_desks : Nat → Nat) (q_t_deeds_desks : Nat → Nat) (a_t_deeds_desks : Nat → Nat → Int32) (t_deeds_desks_genus : Nat → Int32) (t_deeds_desks_size : Nat → Int32) (t_deeds_desks_limit : Nat → Int32) (t_deeds_desks_tree : Nat → Int64) (t_imageKept : Int32) (t_desk_genus : Int32) (t_desk_size : Int32) (t_desk_limit : Int32) (t_desk_tree : Int64) (t_imageDesk_genus : Int32) (t_imageDesk_size : Int32) (t_imageDesk_limit : Int32) (t_imageDesk_tree : Int64) (a_t_desk_powers : Nat → Int32) (a_t_imageDesk_powers : Nat → Int32) (t_deeds_now : Int32) (t_deeds_last : Int32) (r0 : Int32) (w0 : Nat → Int32) (w1 : Int32) (w2 : Int32) (w3 : Int32) (w4 : Int64) (w5 : Int32) (w6 : Int32) (w7 : Nat → Nat → Int32) (w8 : Nat → Int32) (w9 : Nat → Int32) (w10 : Nat → Int32) (w11 : Nat → Int64) (hF : F_X8_restore a_t_deeds_desks t_deeds_desks_genus t_deeds_desks_size t_deeds_desks_limit t_deeds_desks_tree t_imageKept t_desk_genus t_desk_size t_desk_limit t_desk_tree t_imageDesk_genus t_imageDesk_size t_imageDesk_limit t_imageDesk_tree a_t_desk_powers a_t_imageDesk_powers t_deeds_now t_deeds_last = some (r0, w0, w1, w2, w3, w4, w5, w6, w7, w8, w9, w10, w11)) : Met l yX8_restore wsX8_restore ({ frames := 2, cells := 0, slots := 0, locals := 43 }) (k_pre G (k_T cI cJ cD cH) [(h_t, .inr (7, [.ref h_t_desk, .ref h_t_imageDesk, .ref h_t_deeds, .ref h_t_numbers, .ref h_t_tape, .ref h_t_reader, .ref h_t_speller, .ref h_t_holders, .int t_imageKept])), (h_t_desk, .inr (1, [.int t_desk_genus, .int t_desk_size, .ref h_t_desk_powers, .int t_desk_limit, .long t_desk_tree])), (h_t_imageDesk, .inr (1, [.int t_imageDesk_genus, .int t_imageDesk_size, .ref h_t_imageDesk_powers, .int t_imageDesk_limit, .long t_imageDesk_tree])), (h_t_desk_powers, .inl (cI, 8, .inl a_t_desk_powers)), (h_t_imageDesk_powers, .inl (cI, 8, .inl a_t_imageDesk_powers)), (h_t_deeds, .inr (0, [.ref h_t_deeds_desks, .int t_deeds_now, .int t_deeds_last])), (h_t_deeds_desks, .inl (cD, 9, .inr (.inr (.inr (.inr (fun i => some (d_t_deeds_desks i))))))), ((d_t_deeds_desks 0), .inr (1, [.int (t_deeds_desks_genus 0), .int (t_deeds_desks_size 0), .ref (q_t_deeds_desks 0), .int (t_deeds_desks_limit 0), .long (t_deeds_desks_tree 0)])), ((q_t_deeds_desks 0), .inl (cI, 8, .inl (a_t_deeds_desks 0))), ((d_t_deeds_desks 1), .inr (1, [.int (t_deeds_desks_genus 1), .int (t_deeds_desks_size 1), .ref (q_t_deeds_desks 1), .int (t_deeds_desks_limit 1), .long (t_deeds_desks_tree 1)])), ((q_t_deeds_desks 1), .inl (cI, 8, .inl (a_t_deeds_desks 1))), ((d_t_deeds_desks 2), .inr (1, [.int (t_deeds_desks_genus 2), .int (t_deeds_desks_size 2), .ref (q_t_deeds_desks 2), .int (t_deeds_desks_limit 2), .long (t_deeds_desks_tree 2)])), ((q_t_deeds_desks 2), .inl (cI, 8, .inl (a_t_deeds_desks 2))), ((d_t_deeds_desks 3), .inr (1, [.int (t_deeds_desks_genus 3), .int (t_deeds_desks_size 3), .ref (q_t_deeds_desks 3), .int (t_deeds_desks_limit 3), .long (t_deeds_desks_tree 3)])), ((q_t_deeds_desks 3), .inl (cI, 8, .inl (a_t_deeds_desks 3))), ((d_t_deeds_desks 4), .inr (1, [.int (t_deeds_desks_genus 4), .int (t_deeds_desks_size 4), .ref (q_t_deeds_desks 4), .int (t_deeds_desks_limit 4), .long (t_deeds_desks_tree 4)])), ((q_t_deeds_desks 4), .inl (cI, 8, .inl (a_t_deeds_desks 4))), ((d_t_deeds_desks 5), .inr (1, [.int (t_deeds_desks_genus 5), .int (t_deeds_desks_size 5), .ref (q_t_deeds_desks 5), .int (t_deeds_desks_limit 5), .long (t_deeds_desks_tree 5)])), ((q_t_deeds_desks 5), .inl (cI, 8, .inl (a_t_deeds_desks 5))), ((d_t_deeds_desks 6), .inr (1, [.int (t_deeds_desks_genus 6), .int (t_deeds_desks_size 6), .ref (q_t_deeds_desks 6), .int (t_deeds_desks_limit 6), .long (t_deeds_desks_tree 6)])), ((q_t_deeds_desks 6), .inl (cI, 8, .inl (a_t_deeds_desks 6))), ((d_t_deeds_desks 7), .inr (1, [.int (t_deeds_desks_genus 7), .int (t_deeds_desks_size 7), .ref (q_t_deeds_desks 7), .int (t_deeds_desks_limit 7), .long (t_deeds_desks_tree 7)])), ((q_t_deeds_desks 7), .inl (cI, 8, .inl (a_t_deeds_desks 7))), ((d_t_deeds_desks 8), .inr (1, [.int (t_deeds_desks_genus 8), .int (t_deeds_desks_size 8), .ref (q_t_deeds_desks 8), .int (t_deeds_desks_limit 8), .long (t_deeds_desks_tree 8)])), ((q_t_deeds_desks 8), .inl (cI, 8, .inl (a_t_deeds_desks 8)))] sz [.ref h_t]) (va_Qi (fun r (_ : Unit) => r = r0 ∧ True) (fun _ t => va_P G vwCl [(h_t, .inr (7, [.ref h_t_desk, .ref h_t_imageDesk, .ref h_t_deeds, .ref h_t_numbers, .ref h_t_tape, .ref h_t_reader, .ref h_t_speller, .ref h_t_holders, .int t_imageKept])), (h_t_desk, .inr (1, [.int w1, .int w2, .ref h_t_desk_powers, .int w3, .long w4])), (h_t_imageDesk, .inr (1, [.int t_imageDesk_genus, .int t_imageDesk_size, .ref h_t_imageDesk_powers, .int t_imageDesk_limit, .long t_imageDesk_tree])), (h_t_desk_powers, .inl (cI, 8, .inl w0)), (h_t_imageDesk_powers, .inl (cI, 8, .inl a_t_imageDesk_powers)), (h_t_deeds, .inr (0, [.ref h_t_deeds_desks, .int w5, .int w6])), (h_t_deeds_desks, .inl (cD, 9, .inr (.inr (.inr (.inr (fun i => some (d_t_deeds_desks i))))))), ((d_t_deeds_desks 0), .inr (1, [.int (w8 0), .int (w10 0), .ref (q_t_deeds_desks 0), .int (w9 0), .long (w11 0)])), ((q_t_deeds_desks 0), .inl (cI, 8, .inl (w7 0))), ((d_t_deeds_desks 1), .inr (1, [.int (w8 1), .int (w10 1), .ref (q_t_deeds_desks 1), .int (w9 1), .long (w11 1)])), ((q_t_deeds_desks 1), .inl (cI, 8, .inl (w7 1))), ((d_t_deeds_desks 2), .inr (1, [.int (w8 2), .int (w10 2), .ref (q_t_deeds_desks 2), .int (w9 2), .long (w11 2)])), ((q_t_deeds_desks 2), .inl (cI, 8, .inl (w7 2))), ((d_t_deeds_desks 3), .inr (1, [.int (w8 3), .int (w10 3), .ref (q_t_deeds_desks 3), .int (w9 3), .long (w11 3)])), ((q_t_deeds_desks 3), .inl (cI, 8, .inl (w7 3))), ((d_t_deeds_desks 4), .inr (1, [.int (w8 4), .int (w10 4), .ref (q_t_deeds_desks 4), .int (w9 4), .long (w11 4)])), ((q_t_deeds_desks 4), .inl (cI, 8, .inl (w7 4))), ((d_t_deeds_desks 5), .inr (1, [.int (w8 5), .int (w10 5), .ref (q_t_deeds_desks 5), .int (w9 5), .long (w11 5)])), ((q_t_deeds_desks 5), .inl (cI, 8, .inl (w7 5))), ((d_t_deeds_desks 6), .inr (1, [.int (w8 6), .int (w10 6), .ref (q_t_deeds_desks 6), .int (w9 6), .long (w11 6)])), ((q_t_deeds_desks 6), .inl (cI, 8, .inl (w7 6))), ((d_t_deeds_desks 7), .inr (1, [.int (w8 7), .int (w10 7), .ref (q_t_deeds_desks 7), .int (w9 7), .long (w11 7)])), ((q_t_deeds_desks 7), .inl (cI, 8, .inl (w7 7))), ((d_t_deeds_desks 8), .inr (1, [.int (w8 8), .int (w10 8), .ref (q_t_deeds_desks 8), .int (w9 8), .long (w11 8)])), ((q_t_deeds_desks 8), .inl (cI, 8, .inl (w7 8)))] t.heap) (va_A [(h_t, .inr (7, [.ref h_t_desk, .ref h_t_imageDesk, .ref h_t_deeds, .ref h_t_numbers, .ref h_t_tape, .ref h_t_reader, .ref h_t_speller, .ref h_t_holders, .int t_imageKept])), (h_t_desk, .inr (1, [.int t_desk_genus, .int t_desk_size, .ref h_t_desk_powers, .int t_desk_limit, .long t_desk_tree])), (h_t_imageDesk, .inr (1, [.int t_imageDesk_genus, .int t_imageDesk_size, .ref h_t_imageDesk_powers, .int t_imageDesk_limit, .long t_imageDesk_tree])), (h_t_desk_powers, .inl (cI, 8, .inl a_t_desk_powers)), (h_t_imageDesk_powers, .inl (cI, 8, .inl a_t_imageDesk_powers)), (h_t_deeds, .inr (0, [.ref h_t_deeds_desks, .int t_deeds_now, .int t_deeds_last])), (h_t_deeds_desks, .inl (cD, 9, .inr (.inr (.inr (.inr (fun i => some (d_t_deeds_desks i))))))), ((d_t_deeds_desks 0), .inr (1, [.int (t_deeds_desks_genus 0), .int (t_deeds_desks_size 0), .ref (q_t_deeds_desks 0), .int (t_deeds_desks_limit 0), .long (t_deeds_desks_tree 0)])), ((q_t_deeds_desks 0), .inl (cI, 8, .inl (a_t_deeds_desks 0))), ((d_t_deeds_desks 1), .inr (1, [.int (t_deeds_desks_genus 1), .int (t_deeds_desks_size 1), .ref (q_t_deeds_desks 1), .int (t_deeds_desks_limit 1), .long (t_deeds_desks_tree 1)])), ((q_t_deeds_desks 1), .inl (cI, 8, .inl (a_t_deeds_desks 1))), ((d_t_deeds_desks 2), .inr (1, [.int (t_deeds_desks_genus 2), .int (t_deeds_desks_size 2), .ref (q_t_deeds_desks 2), .int (t_deeds_desks_limit 2), .long (t_deeds_desks_tree 2)])), ((q_t_deeds_desks 2), .inl (cI, 8, .inl (a_t_deeds_desks 2))), ((d_t_deeds_desks 3), .inr (1, [.int (t_deeds_desks_genus 3), .int (t_deeds_desks_size 3), .ref (q_t_deeds_desks 3), .int (t_deeds_desks_limit 3), .long (t_deeds_desks_tree 3)])), ((q_t_deeds_desks 3), .inl (cI, 8, .inl (a_t_deeds_desks 3))), ((d_t_deeds_desks 4), .inr (1, [.int (t_deeds_desks_genus 4), .int (t_deeds_desks_size 4), .ref (q_t_deeds_desks 4), .int (t_deeds_desks_limit 4), .long (t_deeds_desks_tree 4)])), ((q_t_deeds_desks 4), .inl (cI, 8, .inl (a_t_deeds_desks 4))), ((d_t_deeds_desks 5), .inr (1, [.int (t_deeds_desks_genus 5), .int (t_deeds_desks_size 5), .ref (q_t_deeds_desks 5), .int (t_deeds_desks_limit 5), .long (t_deeds_desks_tree 5)])), ((q_t_deeds_desks 5), .inl (cI, 8, .inl (a_t_deeds_desks 5))), ((d_t_deeds_desks 6), .inr (1, [.int (t_deeds_desks_genus 6), .int (t_deeds_desks_size 6), .ref (q_t_deeds_desks 6), .int (t_deeds_desks_limit 6), .long (t_deeds_desks_tree 6)])), ((q_t_deeds_desks 6), .inl (cI, 8, .inl (a_t_deeds_desks 6))), ((d_t_deeds_desks 7), .inr (1, [.int (t_deeds_desks_genus 7), .int (t_deeds_desks_size 7), .ref (q_t_deeds_desks 7), .int (t_deeds_desks_limit 7), .long (t_deeds_desks_tree 7)])), ((q_t_deeds_desks 7), .inl (cI, 8, .inl (a_t_deeds_desks 7))), ((d_t_deeds_desks 8), .inr (1, [.int (t_deeds_desks_genus 8), .int (t_deeds_desks_size 8), .ref (q_t_deeds_desks 8), .int (t_deeds_desks_limit 8), .long (t_deeds_desks_tree 8)])), ((q_t_deeds_desks 8), .inl (cI, 8, .inl (a_t_deeds_desks 8)))] sz)) 0 0 (va_A [(h_t, .inr (7, [.ref h_t_desk, .ref h_t_imageDesk, .ref h_t_deeds, .ref h_t_numbers, .ref h_t_tape, .ref h_t_reader, .ref h_t_speller, .ref h_t_holders, .int t_imageKept])), (h_t_desk, .inr (1, [.int t_desk_genus, .int t_desk_size, .ref h_t_desk_powers, .int t_desk_limit, .long t_desk_tree])), (h_t_imageDesk, .inr (1, [.int t_imageDesk_genus, .int t_imageDesk_size, .ref h_t_imageDesk_powers, .int t_imageDesk_limit, .long t_imageDesk_tree])), (h_t_desk_powers, .inl (cI, 8, .inl a_t_desk_powers)), (h_t_imageDesk_powers, .inl (cI, 8, .inl a_t_imageDesk_powers)), (h_t_deeds, .inr (0, [.ref h_t_deeds_desks, .int t_deeds_now, .int t_deeds_last])), (h_t_deeds_desks, .inl (cD, 9, .inr (.inr (.inr (.inr (fun i => some (d_t_deeds_desks i))))))), ((d_t_deeds_desks 0), .inr (1, [.int (t_deeds_desks_genus 0), .int (t_deeds_desks_size 0), .ref (q_t_deeds_desks 0), .int (t_deeds_desks_limit 0), .long (t_deeds_desks_tree 0)])), ((q_t_deeds_desks 0), .inl (cI, 8, .inl (a_t_deeds_desks 0))), ((d_t_deeds_desks 1), .inr (1, [.int (t_deeds_desks_genus 1), .int (t_deeds_desks_size 1), .ref (q_t_deeds_desks 1), .int (t_deeds_desks_limit 1), .long (t_deeds_desks_tree 1)])), ((q_t_deeds_desks 1), .inl (cI, 8, .inl (a_t_deeds_desks 1))), ((d_t_deeds_desks 2), .inr (1, [.int (t_deeds_desks_genus 2), .int (t_deeds_desks_size 2), .ref (q_t_deeds_desks 2), .int (t_deeds_desks_limit 2), .long (t_deeds_desks_tree 2)])), ((q_t_deeds_desks 2), .inl (cI, 8, .inl (a_t_deeds_desks 2))), ((d_t_deeds_desks 3), .inr (1, [.int (t_deeds_desks_genus 3), .int (t_deeds_desks_size 3), .ref (q_t_deeds_desks 3), .int (t_deeds_desks_limit 3), .long (t_deeds_desks_tree 3)])), ((q_t_deeds_desks 3), .inl (cI, 8, .inl (a_t_deeds_desks 3))), ((d_t_deeds_desks 4), .inr (1, [.int (t_deeds_desks_genus 4), .int (t_deeds_desks_size 4), .ref (q_t_deeds_desks 4), .int (t_deeds_desks_limit 4), .long (t_deeds_desks_tree 4)])), ((q_t_deeds_desks 4), .inl (cI, 8, .inl (a_t_deeds_desks 4))), ((d_t_deeds_desks 5), .inr (1, [.int (t_deeds_desks_genus 5), .int (t_deeds_desks_size 5), .ref (q_t_deeds_desks 5), .int (t_deeds_desks_limit 5), .long (t_deeds_desks_tree 5)])), ((q_t_deeds_desks 5), .inl (cI, 8, .inl (a_t_deeds_desks 5))), ((d_t_deeds_desks 6), .inr (1, [.int (t_deeds_desks_genus 6), .int (t_deeds_desks_size 6), .ref (q_t_deeds_desks 6), .int (t_deeds_desks_limit 6), .long (t_deeds_desks_tree 6)])), ((q_t_deeds_desks 6), .inl (cI, 8, .inl (a_t_deeds_desks 6))), ((d_t_deeds_desks 7), .inr (1, [.int (t_deeds_desks_genus 7), .int (t_deeds_desks_size 7), .ref (q_t_deeds_desks 7), .int (t_deeds_desks_limit 7), .long (t_deeds_desks_tree 7)])), ((q_t_deeds_desks 7), .inl (cI, 8, .inl (a_t_deeds_desks 7))), ((d_t_deeds_desks 8), .inr (1, [.int (t_deeds_desks_genus 8), .int (t_deeds_desks_size 8), .ref (q_t_deeds_desks 8), .int (t_deeds_desks_limit 8), .long (t_deeds_desks_tree 8)])), ((q_t_deeds_desks 8), .inl (cI, 8, .inl (a_t_deeds_desks 8)))] sz) := by
  refine Met.ofW (cc := cX8_restore) (maxL := 1) (ret := (some .int)) (by decide) rfl ?_
  intro p e s m args below meth c s₁ B hml hv
  obtain ⟨rfl, hsz, hP, hK, hD0⟩ := hv
  have hx := B.exec
  have hb := B.bytes
  have hr := B.returns
  have hts := atoms_spec (ws := wsX8_restore) B.pre
  have hta : ∀ w ∈ wA, w.before ([.ref h_t] : List Value).toArray s = true := hta_of hts
  have hown : s.vm.findClass RX8 = some m.cls := findClass_of_methodNamed B.named
  have hlocks := B.notSynchronized
  subst hsz
  have hD := hD0.self (sz := s.heap.size)
  generalize hAe : va_A [(h_t, .inr (7, [.ref h_t_desk, .ref h_t_imageDesk, .ref h_t_deeds, .ref h_t_numbers, .ref h_t_tape, .ref h_t_reader, .ref h_t_speller, .ref h_t_holders, .int t_imageKept])), (h_t_desk, .inr (1, [.int t_desk_genus, .int t_desk_size, .ref h_t_desk_powers, .int t_desk_limit, .long t_desk_tree])), (h_t_imageDesk, .inr (1, [.int t_imageDesk_genus, .int t_imageDesk_size, .ref h_t_imageDesk_powers, .int t_imageDesk_limit, .long t_imageDesk_tree])), (h_t_desk_powers, .inl (cI, 8, .inl a_t_desk_powers)), (h_t_imageDesk_powers, .inl (cI, 8, .inl a_t_imageDesk_powers)), (h_t_deeds, .inr (0, [.ref h_t_deeds_desks, .int t_deeds_now, .int t_deeds_last])), (h_t_deeds_desks, .inl (cD, 9, .inr (.inr (.inr (.inr (fun i => some (d_t_deeds_desks i))))))), ((d_t_deeds_desks 0), .inr (1, [.int (t_deeds_desks_genus 0), .int (t_deeds_desks_size 0), .ref (q_t_deeds_desks 0), .int (t_deeds_desks_limit 0), .long (t_deeds_desks_tree 0)])), ((q_t_deeds_desks 0), .inl (cI, 8, .inl (a_t_deeds_desks 0))), ((d_t_deeds_desks 1), .inr (1, [.int (t_deeds_desks_genus 1), .int (t_deeds_desks_size 1), .ref (q_t_deeds_desks 1), .int (t_deeds_desks_limit 1), .long (t_deeds_desks_tree 1)])), ((q_t_deeds_desks 1), .inl (cI, 8, .inl (a_t_deeds_desks 1))), ((d_t_deeds_desks 2), .inr (1, [.int (t_deeds_desks_genus 2), .int (t_deeds_desks_size 2), .ref (q_t_deeds_desks 2), .int (t_deeds_desks_limit 2), .long (t_deeds_desks_tree 2)])), ((q_t_deeds_desks 2), .inl (cI, 8, .inl (a_t_deeds_desks 2))), ((d_t_deeds_desks 3), .inr (1, [.int (t_deeds_desks_genus 3), .int (t_deeds_desks_size 3), .ref (q_t_deeds_desks 3), .int (t_deeds_desks_limit 3), .long (t_deeds_desks_tree 3)])), ((q_t_deeds_desks 3), .inl (cI, 8, .inl (a_t_deeds_desks 3))), ((d_t_deeds_desks 4), .inr (1, [.int (t_deeds_desks_genus 4), .int (t_deeds_desks_size 4), .ref (q_t_deeds_desks 4), .int (t_deeds_desks_limit 4), .long (t_deeds_desks_tree 4)])), ((q_t_deeds_desks 4), .inl (cI, 8, .inl (a_t_deeds_desks 4))), ((d_t_deeds_desks 5), .inr (1, [.int (t_deeds_desks_genus 5), .int (t_deeds_desks_size 5), .ref (q_t_deeds_desks 5), .int (t_deeds_desks_limit 5), .long (t_deeds_desks_tree 5)])), ((q_t_deeds_desks 5), .inl (cI, 8, .inl (a_t_deeds_desks 5))), ((d_t_deeds_desks 6), .inr (1, [.int (t_deeds_desks_genus 6), .int (t_deeds_desks_size 6), .ref (q_t_deeds_desks 6), .int (t_deeds_desks_limit 6), .long (t_deeds_desks_tree 6)])), ((q_t_deeds_desks 6), .inl (cI, 8, .inl (a_t_deeds_desks 6))), ((d_t_deeds_desks 7), .inr (1, [.int (t_deeds_desks_genus 7), .int (t_deeds_desks_size 7), .ref (q_t_deeds_desks 7), .int (t_deeds_desks_limit 7), .long (t_deeds_desks_tree 7)])), ((q_t_deeds_desks 7), .inl (cI, 8, .inl (a_t_deeds_desks 7))), ((d_t_deeds_desks 8), .inr (1, [.int (t_deeds_desks_genus 8), .int (t_deeds_desks_size 8), .ref (q_t_deeds_desks 8), .int (t_deeds_desks_limit 8), .long (t_deeds_desks_tree 8)])), ((q_t_deeds_desks 8), .inl (cI, 8, .inl (a_t_deeds_desks 8)))] s.heap.size = A at hD ⊢
  have hA : ∀ q : Nat, s.heap.size ≤ q → A q := fun q h => by rw [← hAe]; exact Or.inr h
  have hS : va_S A s.heap s.heap [] := va_S.rf
  have hl := lv_entry ([.ref h_t]) (n := 1) (Nat.le_of_ble_eq_true rfl)
  rw [lg_entry_eq]
  generalize (lg_sl ([.ref h_t]) ++ List.replicate (1 - (lg_sl ([.ref h_t])).length) Slot.unset).toArray = ls at hl ⊢
  have hl : lv_has ls 1 [(0, .ref h_t)] := hl
  have hinX1 : ∀ w ∈ wsX10, w ∈ wsX8_restore := hin_of in_X1
  have hinX8 : ∀ w ∈ wsX80, w ∈ wsX8_restore := hin_of in_X8
  have h := hF
  unfold F_X8_restore at h
  refine lv_aload_n hx hb dX8_restore_0 rfl (lv_at hl 0 rfl) ?_
  refine va_get (D := G) (ci := 7) (v := .int t_imageKept) (C := RX8) (T := TX8) (N := 9) hx hb hts hinX8 hown hK hP 0 rfl rfl 8 (by decide) (hta _ mw_599) (fun _ h9 => h9) rfl dX8_restore_1 ?_
  refine lv_if_ne (tgt := 10) hx hb dX8_restore_4 (by decide) (fun c1 => ?_) (fun c1 => ?_)
  rotate_left
  · have h := it_p h c1
    refine lv_bipush (v := (-5 : Int32)) hx hb dX8_restore_7 (by decide) ?_
    have h9 := Option.some.inj h
    have e9 : (-5 : Int32) = r0 := congrArg (fun z9 => z9.1) h9
    rw [← e9]
    have e9 : a_t_desk_powers = w0 := congrArg (fun z9 => z9.2.1) h9
    rw [← e9]
    have e9 : t_desk_genus = w1 := congrArg (fun z9 => z9.2.2.1) h9
    rw [← e9]
    have e9 : t_desk_size = w2 := congrArg (fun z9 => z9.2.2.2.1) h9
    rw [← e9]
    have e9 : t_desk_limit = w3 := congrArg (fun z9 => z9.2.2.2.2.1) h9
    rw [← e9]
    have e9 : t_desk_tree = w4 := congrArg (fun z9 => z9.2.2.2.2.2.1) h9
    rw [← e9]
    have e9 : t_deeds_now = w5 := congrArg (fun z9 => z9.2.2.2.2.2.2.1) h9
    rw [← e9]
    have e9 : t_deeds_last = w6 := congrArg (fun z9 => z9.2.2.2.2.2.2.2.1) h9
    rw [← e9]
    have e9 : a_t_deeds_desks = w7 := congrArg (fun z9 => z9.2.2.2.2.2.2.2.2.1) h9
    rw [← e9]
    have e9 : t_deeds_desks_genus = w8 := congrArg (fun z9 => z9.2.2.2.2.2.2.2.2.2.1) h9
    rw [← e9]
    have e9 : t_deeds_desks_limit = w9 := congrArg (fun z9 => z9.2.2.2.2.2.2.2.2.2.2.1) h9
    rw [← e9]
    have e9 : t_deeds_desks_size = w10 := congrArg (fun z9 => z9.2.2.2.2.2.2.2.2.2.2.2.1) h9
    rw [← e9]
    have e9 : t_deeds_desks_tree = w11 := congrArg (fun z9 => z9.2.2.2.2.2.2.2.2.2.2.2.2) h9
    rw [← e9]
    exact k_iret hx hb hr hlocks hP hS rfl dX8_restore_9
  have h := it_n h c1
  refine lv_aload_n hx hb dX8_restore_10 rfl (lv_at hl 0 rfl) ?_
  refine va_get (D := G) (ci := 7) (v := .ref h_t_desk) (C := RX8) (T := TX8) (N := 9) hx hb hts hinX8 hown hK hP 0 rfl rfl 0 (by decide) (hta _ mw_358) (fun _ h9 => h9) rfl dX8_restore_11 ?_
  refine lv_aload_n hx hb dX8_restore_14 rfl (lv_at hl 0 rfl) ?_
  refine va_get (D := G) (ci := 7) (v := .ref h_t_imageDesk) (C := RX8) (T := TX8) (N := 9) hx hb hts hinX8 hown hK hP 0 rfl rfl 1 (by decide) (hta _ mw_359) (fun _ h9 => h9) rfl dX8_restore_15 ?_
  obtain ⟨x2, hx2, h⟩ := bd_e h
  try dsimp only at h
  refine k_VvM (n := 1) (As := [.ref h_t_imageDesk]) (rest := []) hx hb hml hown hts (c_X1_copyFrom l G cI cJ cD cH s.heap.size h_t_desk h_t_imageDesk h_t_desk_powers h_t_imageDesk_powers t_desk_genus t_desk_size t_desk_limit t_desk_tree t_imageDesk_genus t_imageDesk_size t_imageDesk_limit t_imageDesk_tree a_t_desk_powers a_t_imageDesk_powers (x2.1) (x2.2.1) (x2.2.2.1) (x2.2.2.2.1) (x2.2.2.2.2) hx2) gX8_restore_X1_copyFrom rfl rfl rfl (by decide +kernel) ⟨by first | exact Nat.le_of_ble_eq_true rfl | (simp only [headSpec]; omega), by first | exact Nat.le_of_ble_eq_true rfl | (simp only [headSpec]; omega)⟩ hK hP hD hS hA [1, 2, 3, 4] (by decide) rfl rfl (ci := 1) rfl rfl rfl rfl rfl hl.1 (Nat.le_of_ble_eq_true rfl) dX8_restore_18 ⟨Nat.zero_le _, Nat.zero_le _⟩ [(h_t, .inr (7, [.ref h_t_desk, .ref h_t_imageDesk, .ref h_t_deeds, .ref h_t_numbers, .ref h_t_tape, .ref h_t_reader, .ref h_t_speller, .ref h_t_holders, .int t_imageKept])), (h_t_desk, .inr (1, [.int (x2.2.1), .int (x2.2.2.1), .ref h_t_desk_powers, .int (x2.2.2.2.1), .long (x2.2.2.2.2)])), (h_t_imageDesk, .inr (1, [.int t_imageDesk_genus, .int t_imageDesk_size, .ref h_t_imageDesk_powers, .int t_imageDesk_limit, .long t_imageDesk_tree])), (h_t_desk_powers, .inl (cI, 8, .inl (x2.1))), (h_t_imageDesk_powers, .inl (cI, 8, .inl a_t_imageDesk_powers)), (h_t_deeds, .inr (0, [.ref h_t_deeds_desks, .int t_deeds_now, .int t_deeds_last])), (h_t_deeds_desks, .inl (cD, 9, .inr (.inr (.inr (.inr (fun i => some (d_t_deeds_desks i))))))), ((d_t_deeds_desks 0), .inr (1, [.int (t_deeds_desks_genus 0), .int (t_deeds_desks_size 0), .ref (q_t_deeds_desks 0), .int (t_deeds_desks_limit 0), .long (t_deeds_desks_tree 0)])), ((q_t_deeds_desks 0), .inl (cI, 8, .inl (a_t_deeds_desks 0))), ((d_t_deeds_desks 1), .inr (1, [.int (t_deeds_desks_genus 1), .int (t_deeds_desks_size 1), .ref (q_t_deeds_desks 1), .int (t_deeds_desks_limit 1), .long (t_deeds_desks_tree 1)])), ((q_t_deeds_desks 1), .inl (cI, 8, .inl (a_t_deeds_desks 1))), ((d_t_deeds_desks 2), .inr (1, [.int (t_deeds_desks_genus 2), .int (t_deeds_desks_size 2), .ref (q_t_deeds_desks 2), .int (t_deeds_desks_limit 2), .long (t_deeds_desks_tree 2)])), ((q_t_deeds_desks 2), .inl (cI, 8, .inl (a_t_deeds_desks 2))), ((d_t_deeds_desks 3), .inr (1, [.int (t_deeds_desks_genus 3), .int (t_deeds_desks_size 3), .ref (q_t_deeds_desks 3), .int (t_deeds_desks_limit 3), .long (t_deeds_desks_tree 3)])), ((q_t_deeds_desks 3), .inl (cI, 8, .inl (a_t_deeds_desks 3))), ((d_t_deeds_desks 4), .inr (1, [.int (t_deeds_desks_genus 4), .int (t_deeds_desks_size 4), .ref (q_t_deeds_desks 4), .int (t_deeds_desks_limit 4), .long (t_deeds_desks_tree 4)])), ((q_t_deeds_desks 4), .inl (cI, 8, .inl (a_t_deeds_desks 4))), ((d_t_deeds_desks 5), .inr (1, [.int (t_deeds_desks_genus 5), .int (t_deeds_desks_size 5), .ref (q_t_deeds_desks 5), .int (t_deeds_desks_limit 5), .long (t_deeds_desks_tree 5)])), ((q_t_deeds_desks 5), .inl (cI, 8, .inl (a_t_deeds_desks 5))), ((d_t_deeds_desks 6), .inr (1, [.int (t_deeds_desks_genus 6), .int (t_deeds_desks_size 6), .ref (q_t_deeds_desks 6), .int (t_deeds_desks_limit 6), .long (t_deeds_desks_tree 6)])), ((q_t_deeds_desks 6), .inl (cI, 8, .inl (a_t_deeds_desks 6))), ((d_t_deeds_desks 7), .inr (1, [.int (t_deeds_desks_genus 7), .int (t_deeds_desks_size 7), .ref (q_t_deeds_desks 7), .int (t_deeds_desks_limit 7), .long (t_deeds_desks_tree 7)])), ((q_t_deeds_desks 7), .inl (cI, 8, .inl (a_t_deeds_desks 7))), ((d_t_deeds_desks 8), .inr (1, [.int (t_deeds_desks_genus 8), .int (t_deeds_desks_size 8), .ref (q_t_deeds_desks 8), .int (t_deeds_desks_limit 8), .long (t_deeds_desks_tree 8)])), ((q_t_deeds_desks 8), .inl (cI, 8, .inl (a_t_deeds_desks 8)))] [0, 1, 2, 3, 4, 0, 0, 0, 0, 0, 0, 0, 0, 0, 0, 0, 0, 0, 0, 0, 0, 0, 0, 0, 0] 4 (by decide +kernel) rfl rfl rfl (fun hp2 H locs hP hD hS => ?_)
  refine lv_aload_n hx hb dX8_restore_21 rfl (lv_at hl 0 rfl) ?_
  refine va_get (D := G) (ci := 7) (v := .ref h_t_deeds) (C := RX8) (T := TX8) (N := 9) hx hb hts hinX8 hown hK hP 0 rfl rfl 2 (by decide) (hta _ mw_362) (fun _ h9 => h9) rfl dX8_restore_22 ?_
  refine lv_aload_n hx hb dX8_restore_25 rfl (lv_at hl 0 rfl) ?_
  refine va_get (D := G) (ci := 7) (v := .ref h_t_desk) (C := RX8) (T := TX8) (N := 9) hx hb hts hinX8 hown hK hP 0 rfl rfl 0 (by decide) (hta _ mw_358) (fun _ h9 => h9) rfl dX8_restore_26 ?_
  obtain ⟨x3, hx3, h⟩ := bd_e h
  try dsimp only at h
  refine k_VvM (n := 1) (As := [.ref h_t_desk]) (rest := []) hx hb hml hown hts (c_X0_startAnew l G cI cJ cD cH H.size h_t_deeds h_t_desk h_t_deeds_desks h_t_desk_powers d_t_deeds_desks q_t_deeds_desks a_t_deeds_desks t_deeds_desks_genus t_deeds_desks_size t_deeds_desks_limit t_deeds_desks_tree t_deeds_now t_deeds_last (x2.2.1) (x2.2.2.1) (x2.2.2.2.1) (x2.2.2.2.2) (x2.1) (x3.1) (x3.2.1) (x3.2.2.1) (x3.2.2.2.1) (x3.2.2.2.2.1) (x3.2.2.2.2.2.1) (x3.2.2.2.2.2.2) hx3) gX8_restore_X0_startAnew rfl rfl rfl (by decide +kernel) ⟨by first | exact Nat.le_of_ble_eq_true rfl | (simp only [headSpec]; omega), by first | exact Nat.le_of_ble_eq_true rfl | (simp only [headSpec]; omega)⟩ hK hP hD hS hA [5, 1, 6, 7, 8, 9, 10, 11, 12, 13, 14, 15, 16, 17, 18, 19, 20, 21, 22, 23, 24, 3] (by decide) rfl rfl (ci := 0) rfl rfl rfl rfl rfl hl.1 (Nat.le_of_ble_eq_true rfl) dX8_restore_29 ⟨Nat.zero_le _, Nat.zero_le _⟩ [(h_t, .inr (7, [.ref h_t_desk, .ref h_t_imageDesk, .ref h_t_deeds, .ref h_t_numbers, .ref h_t_tape, .ref h_t_reader, .ref h_t_speller, .ref h_t_holders, .int t_imageKept])), (h_t_desk, .inr (1, [.int (x2.2.1), .int (x2.2.2.1), .ref h_t_desk_powers, .int (x2.2.2.2.1), .long (x2.2.2.2.2)])), (h_t_imageDesk, .inr (1, [.int t_imageDesk_genus, .int t_imageDesk_size, .ref h_t_imageDesk_powers, .int t_imageDesk_limit, .long t_imageDesk_tree])), (h_t_desk_powers, .inl (cI, 8, .inl (x2.1))), (h_t_imageDesk_powers, .inl (cI, 8, .inl a_t_imageDesk_powers)), (h_t_deeds, .inr (0, [.ref h_t_deeds_desks, .int (x3.1), .int (x3.2.1)])), (h_t_deeds_desks, .inl (cD, 9, .inr (.inr (.inr (.inr (fun i => some (d_t_deeds_desks i))))))), ((d_t_deeds_desks 0), .inr (1, [.int ((x3.2.2.2.1) 0), .int ((x3.2.2.2.2.2.1) 0), .ref (q_t_deeds_desks 0), .int ((x3.2.2.2.2.1) 0), .long ((x3.2.2.2.2.2.2) 0)])), ((q_t_deeds_desks 0), .inl (cI, 8, .inl ((x3.2.2.1) 0))), ((d_t_deeds_desks 1), .inr (1, [.int ((x3.2.2.2.1) 1), .int ((x3.2.2.2.2.2.1) 1), .ref (q_t_deeds_desks 1), .int ((x3.2.2.2.2.1) 1), .long ((x3.2.2.2.2.2.2) 1)])), ((q_t_deeds_desks 1), .inl (cI, 8, .inl ((x3.2.2.1) 1))), ((d_t_deeds_desks 2), .inr (1, [.int ((x3.2.2.2.1) 2), .int ((x3.2.2.2.2.2.1) 2), .ref (q_t_deeds_desks 2), .int ((x3.2.2.2.2.1) 2), .long ((x3.2.2.2.2.2.2) 2)])), ((q_t_deeds_desks 2), .inl (cI, 8, .inl ((x3.2.2.1) 2))), ((d_t_deeds_desks 3), .inr (1, [.int ((x3.2.2.2.1) 3), .int ((x3.2.2.2.2.2.1) 3), .ref (q_t_deeds_desks 3), .int ((x3.2.2.2.2.1) 3), .long ((x3.2.2.2.2.2.2) 3)])), ((q_t_deeds_desks 3), .inl (cI, 8, .inl ((x3.2.2.1) 3))), ((d_t_deeds_desks 4), .inr (1, [.int ((x3.2.2.2.1) 4), .int ((x3.2.2.2.2.2.1) 4), .ref (q_t_deeds_desks 4), .int ((x3.2.2.2.2.1) 4), .long ((x3.2.2.2.2.2.2) 4)])), ((q_t_deeds_desks 4), .inl (cI, 8, .inl ((x3.2.2.1) 4))), ((d_t_deeds_desks 5), .inr (1, [.int ((x3.2.2.2.1) 5), .int ((x3.2.2.2.2.2.1) 5), .ref (q_t_deeds_desks 5), .int ((x3.2.2.2.2.1) 5), .long ((x3.2.2.2.2.2.2) 5)])), ((q_t_deeds_desks 5), .inl (cI, 8, .inl ((x3.2.2.1) 5))), ((d_t_deeds_desks 6), .inr (1, [.int ((x3.2.2.2.1) 6), .int ((x3.2.2.2.2.2.1) 6), .ref (q_t_deeds_desks 6), .int ((x3.2.2.2.2.1) 6), .long ((x3.2.2.2.2.2.2) 6)])), ((q_t_deeds_desks 6), .inl (cI, 8, .inl ((x3.2.2.1) 6))), ((d_t_deeds_desks 7), .inr (1, [.int ((x3.2.2.2.1) 7), .int ((x3.2.2.2.2.2.1) 7), .ref (q_t_deeds_desks 7), .int ((x3.2.2.2.2.1) 7), .long ((x3.2.2.2.2.2.2) 7)])), ((q_t_deeds_desks 7), .inl (cI, 8, .inl ((x3.2.2.1) 7))), ((d_t_deeds_desks 8), .inr (1, [.int ((x3.2.2.2.1) 8), .int ((x3.2.2.2.2.2.1) 8), .ref (q_t_deeds_desks 8), .int ((x3.2.2.2.2.1) 8), .long ((x3.2.2.2.2.2.2) 8)])), ((q_t_deeds_desks 8), .inl (cI, 8, .inl ((x3.2.2.1) 8)))] [0, 2, 0, 22, 0, 1, 3, 4, 5, 6, 7, 8, 9, 10, 11, 12, 13, 14, 15, 16, 17, 18, 19, 20, 21] 22 (by decide +kernel) rfl rfl rfl (fun hp3 H locs hP hD hS => ?_)
  refine lv_aload_n hx hb dX8_restore_32 rfl (lv_at hl 0 rfl) ?_
  refine va_get (D := G) (ci := 7) (v := .ref h_t_desk) (C := RX8) (T := TX8) (N := 9) hx hb hts hinX8 hown hK hP 0 rfl rfl 0 (by decide) (hta _ mw_358) (fun _ h9 => h9) rfl dX8_restore_33 ?_
  refine va_get (D := G) (ci := 1) (v := .int (x2.2.2.1)) (C := RX1) (T := TX1) (N := 5) hx hb hts hinX1 hown hK hP 1 rfl rfl 1 (by decide) (hta _ mw_394) (fun _ h9 => h9) rfl dX8_restore_36 ?_
  have h9 := Option.some.inj h
  have e9 : (x2.2.2.1) = r0 := congrArg (fun z9 => z9.1) h9
  rw [← e9]
  have e9 : (x2.1) = w0 := congrArg (fun z9 => z9.2.1) h9
  rw [← e9]
  have e9 : (x2.2.1) = w1 := congrArg (fun z9 => z9.2.2.1) h9
  rw [← e9]
  have e9 : (x2.2.2.1) = w2 := congrArg (fun z9 => z9.2.2.2.1) h9
  rw [← e9]
  have e9 : (x2.2.2.2.1) = w3 := congrArg (fun z9 => z9.2.2.2.2.1) h9
  rw [← e9]
  have e9 : (x2.2.2.2.2) = w4 := congrArg (fun z9 => z9.2.2.2.2.2.1) h9
  rw [← e9]
  have e9 : (x3.1) = w5 := congrArg (fun z9 => z9.2.2.2.2.2.2.1) h9
  rw [← e9]
  have e9 : (x3.2.1) = w6 := congrArg (fun z9 => z9.2.2.2.2.2.2.2.1) h9
  rw [← e9]
  have e9 : (x3.2.2.1) = w7 := congrArg (fun z9 => z9.2.2.2.2.2.2.2.2.1) h9
  rw [← e9]
  have e9 : (x3.2.2.2.1) = w8 := congrArg (fun z9 => z9.2.2.2.2.2.2.2.2.2.1) h9
  rw [← e9]
  have e9 : (x3.2.2.2.2.1) = w9 := congrArg (fun z9 => z9.2.2.2.2.2.2.2.2.2.2.1) h9
  rw [← e9]
  have e9 : (x3.2.2.2.2.2.1) = w10 := congrArg (fun z9 => z9.2.2.2.2.2.2.2.2.2.2.2.1) h9
  rw [← e9]
  have e9 : (x3.2.2.2.2.2.2) = w11 := congrArg (fun z9 => z9.2.2.2.2.2.2.2.2.2.2.2.2) h9
  rw [← e9]
  exact k_iret hx hb hr hlocks hP hS rfl dX8_restore_39

/-! X8_count -/
set_option maxHeartbeats 4000000 in
set_option maxRecDepth 100000 in
theorem c_X8_count (l : Launch) (G : va_G) (cI cJ cD cH : ClassId) (sz : Nat) (h_t : Nat) (h_t_desk : Nat) (h_t_deeds : Nat) (h_t_tape : Nat) (h_t_imageDesk : Nat) (h_t_numbers : Nat) (h_t_reader : Nat) (h_t_speller : Nat) (h_t_holders : Nat) (h_t_desk_powers : Nat) (h_t_deeds_desks : Nat) (h_t_tape_bytes : Nat) (t_imageKept : Int32) (t_desk_genus : Int32) (t_desk_size : Int32) (t_desk_limit : Int32) (t_desk_tree : Int64) (t_deeds_now : Int32) (t_deeds_last : Int32) (t_tape_size : Int32) (p0 : Int32) (r0 : Int32) (hF : F_X8_count t_desk_genus t_desk_size t_desk_limit t_desk_tree t_deeds_now t_deeds_last t_tape_size p0 = some r0) : Met l yX8_count wsX8_count ({ frames := 2, cells := 0, slots := 0, locals := 42 }) (k_pre G (k_T cI cJ cD cH) [(h_t, .inr (7, [.ref h_t_desk, .ref h_t_imageDesk, .ref h_t_deeds, .ref h_t_numbers, .ref h_t_tape, .ref h_t_reader, .ref h_t_speller, .ref h_t_holders, .int t_imageKept])), (h_t_desk, .inr (1, [.int t_desk_genus, .int t_desk_size, .ref h_t_desk_powers, .int t_desk_limit, .long t_desk_tree])), (h_t_deeds, .inr (0, [.ref h_t_deeds_desks, .int t_deeds_now, .int t_deeds_last])), (h_t_tape, .inr (6, [.ref h_t_tape_bytes, .int t_tape_size]))] sz [.ref h_t, .int p0]) (va_Qi (fun r (_ : Unit) => r = r0 ∧ True) (fun _ t => va_P G vwCl [(h_t, .inr (7, [.ref h_t_desk, .ref h_t_imageDesk, .ref h_t_deeds, .ref h_t_numbers, .ref h_t_tape, .ref h_t_reader, .ref h_t_speller, .ref h_t_holders, .int t_imageKept])), (h_t_desk, .inr (1, [.int t_desk_genus, .int t_desk_size, .ref h_t_desk_powers, .int t_desk_limit, .long t_desk_tree])), (h_t_deeds, .inr (0, [.ref h_t_deeds_desks, .int t_deeds_now, .int t_deeds_last])), (h_t_tape, .inr (6, [.ref h_t_tape_bytes, .int t_tape_size]))] t.heap) (va_A [(h_t, .inr (7, [.ref h_t_desk, .ref h_t_imageDesk, .ref h_t_deeds, .ref h_t_numbers, .ref h_t_tape, .ref h_t_reader, .ref h_t_speller, .ref h_t_holders, .int t_imageKept])), (h_t_desk, .inr (1, [.int t_desk_genus, .int t_desk_size, .ref h_t_desk_powers, .int t_desk_limit, .long t_desk_tree])), (h_t_deeds, .inr (0, [.ref h_t_deeds_desks, .int t_deeds_now, .int t_deeds_last])), (h_t_tape, .inr (6, [.ref h_t_tape_bytes, .int t_tape_size]))] sz)) 0 0 (va_A [(h_t, .inr (7, [.ref h_t_desk, .ref h_t_imageDesk, .ref h_t_deeds, .ref h_t_numbers, .ref h_t_tape, .ref h_t_reader, .ref h_t_speller, .ref h_t_holders, .int t_imageKept])), (h_t_desk, .inr (1, [.int t_desk_genus, .int t_desk_size, .ref h_t_desk_powers, .int t_desk_limit, .long t_desk_tree])), (h_t_deeds, .inr (0, [.ref h_t_deeds_desks, .int t_deeds_now, .int t_deeds_last])), (h_t_tape, .inr (6, [.ref h_t_tape_bytes, .int t_tape_size]))] sz) := by
  refine Met.ofW (cc := cX8_count) (maxL := 2) (ret := (some .int)) (by decide) rfl ?_
  intro p e s m args below meth c s₁ B hml hv
  obtain ⟨rfl, hsz, hP, hK, hD0⟩ := hv
  have hx := B.exec
  have hb := B.bytes
  have hr := B.returns
  have hts := atoms_spec (ws := wsX8_count) B.pre
  have hta : ∀ w ∈ wA, w.before ([.ref h_t, .int p0] : List Value).toArray s = true := hta_of hts
  have hown : s.vm.findClass RX8 = some m.cls := findClass_of_methodNamed B.named
  have hlocks := B.notSynchronized
  subst hsz
  have hD := hD0.self (sz := s.heap.size)
  generalize hAe : va_A [(h_t, .inr (7, [.ref h_t_desk, .ref h_t_imageDesk, .ref h_t_deeds, .ref h_t_numbers, .ref h_t_tape, .ref h_t_reader, .ref h_t_speller, .ref h_t_holders, .int t_imageKept])), (h_t_desk, .inr (1, [.int t_desk_genus, .int t_desk_size, .ref h_t_desk_powers, .int t_desk_limit, .long t_desk_tree])), (h_t_deeds, .inr (0, [.ref h_t_deeds_desks, .int t_deeds_now, .int t_deeds_last])), (h_t_tape, .inr (6, [.ref h_t_tape_bytes, .int t_tape_size]))] s.heap.size = A at hD ⊢
  have hA : ∀ q : Nat, s.heap.size ≤ q → A q := fun q h => by rw [← hAe]; exact Or.inr h
  have hS : va_S A s.heap s.heap [] := va_S.rf
  have hl := lv_entry ([.ref h_t, .int p0]) (n := 2) (Nat.le_of_ble_eq_true rfl)
  rw [lg_entry_eq]
  generalize (lg_sl ([.ref h_t, .int p0]) ++ List.replicate (2 - (lg_sl ([.ref h_t, .int p0])).length) Slot.unset).toArray = ls at hl ⊢
  have hl : lv_has ls 2 [(0, .ref h_t), (1, .int p0)] := hl
  have hinX1 : ∀ w ∈ wsX10, w ∈ wsX8_count := hin_of in_X1
  have hinX7 : ∀ w ∈ wsX70, w ∈ wsX8_count := hin_of in_X7
  have hinX8 : ∀ w ∈ wsX80, w ∈ wsX8_count := hin_of in_X8
  have h := hF
  unfold F_X8_count at h
  refine lv_iload_n hx hb dX8_count_0 rfl (lv_at hl 1 rfl) ?_
  by_cases c1 : p0 = (0 : Int32)
  · have h := it_p h c1
    refine lv_tableIn (tgt := 44) hx hb dX8_count_1 (by rw [c1]; decide) (by rw [c1]; decide) (off := 43) (by rw [c1]; decide) (by decide) ?_
    refine lv_aload_n hx hb dX8_count_44 rfl (lv_at hl 0 rfl) ?_
    refine va_get (D := G) (ci := 7) (v := .ref h_t_desk) (C := RX8) (T := TX8) (N := 9) hx hb hts hinX8 hown hK hP 0 rfl rfl 0 (by decide) (hta _ mw_358) (fun _ h9 => h9) rfl dX8_count_45 ?_
    refine va_get (D := G) (ci := 1) (v := .int t_desk_genus) (C := RX1) (T := TX1) (N := 5) hx hb hts hinX1 hown hK hP 1 rfl rfl 0 (by decide) (hta _ mw_389) (fun _ h9 => h9) rfl dX8_count_48 ?_
    have h9 := Option.some.inj h
    have e9 : t_desk_genus = r0 := congrArg (fun z9 => z9) h9
    rw [← e9]
    exact k_iret hx hb hr hlocks hP hS rfl dX8_count_51
  have h := it_n h c1
  by_cases c2 : p0 = (1 : Int32)
  · have h := it_p h c2
    refine lv_tableIn (tgt := 52) hx hb dX8_count_1 (by rw [c2]; decide) (by rw [c2]; decide) (off := 51) (by rw [c2]; decide) (by decide) ?_
    refine lv_aload_n hx hb dX8_count_52 rfl (lv_at hl 0 rfl) ?_
    refine va_get (D := G) (ci := 7) (v := .ref h_t_desk) (C := RX8) (T := TX8) (N := 9) hx hb hts hinX8 hown hK hP 0 rfl rfl 0 (by decide) (hta _ mw_358) (fun _ h9 => h9) rfl dX8_count_53 ?_
    refine va_get (D := G) (ci := 1) (v := .int t_desk_size) (C := RX1) (T := TX1) (N := 5) hx hb hts hinX1 hown hK hP 1 rfl rfl 1 (by decide) (hta _ mw_394) (fun _ h9 => h9) rfl dX8_count_56 ?_
    have h9 := Option.some.inj h
    have e9 : t_desk_size = r0 := congrArg (fun z9 => z9) h9
    rw [← e9]
    exact k_iret hx hb hr hlocks hP hS rfl dX8_count_59
  have h := it_n h c2
  by_cases c3 : p0 = (2 : Int32)
  · have h := it_p h c3
    refine lv_tableIn (tgt := 60) hx hb dX8_count_1 (by rw [c3]; decide) (by rw [c3]; decide) (off := 59) (by rw [c3]; decide) (by decide) ?_
    refine lv_aload_n hx hb dX8_count_60 rfl (lv_at hl 0 rfl) ?_
    refine va_get (D := G) (ci := 7) (v := .ref h_t_desk) (C := RX8) (T := TX8) (N := 9) hx hb hts hinX8 hown hK hP 0 rfl rfl 0 (by decide) (hta _ mw_358) (fun _ h9 => h9) rfl dX8_count_61 ?_
    refine va_get (D := G) (ci := 1) (v := .int t_desk_limit) (C := RX1) (T := TX1) (N := 5) hx hb hts hinX1 hown hK hP 1 rfl rfl 3 (by decide) (hta _ mw_479) (fun _ h9 => h9) rfl dX8_count_64 ?_
    have h9 := Option.some.inj h
    have e9 : t_desk_limit = r0 := congrArg (fun z9 => z9) h9
    rw [← e9]
    exact k_iret hx hb hr hlocks hP hS rfl dX8_count_67
  have h := it_n h c3
  by_cases c4 : p0 = (3 : Int32)
  · have h := it_p h c4
    refine lv_tableIn (tgt := 68) hx hb dX8_count_1 (by rw [c4]; decide) (by rw [c4]; decide) (off := 67) (by rw [c4]; decide) (by decide) ?_
    refine lv_aload_n hx hb dX8_count_68 rfl (lv_at hl 0 rfl) ?_
    refine va_get (D := G) (ci := 7) (v := .ref h_t_desk) (C := RX8) (T := TX8) (N := 9) hx hb hts hinX8 hown hK hP 0 rfl rfl 0 (by decide) (hta _ mw_358) (fun _ h9 => h9) rfl dX8_count_69 ?_
    refine va_get (D := G) (ci := 1) (v := .long t_desk_tree) (C := RX1) (T := TX1) (N := 5) hx hb hts hinX1 hown hK hP 1 rfl rfl 4 (by decide) (hta _ mw_480) (fun _ h9 => h9) rfl dX8_count_72 ?_
    obtain ⟨x5, hx5, h⟩ := bd_e h
    try dsimp only at h
    refine k_SiU (n := 1) (As := [.long t_desk_tree]) (rest := []) hx hb hml hown hts (c_X6_sizeOf l G cI cJ cD cH s.heap.size t_desk_tree x5 hx5) gX8_count_X6_sizeOf rfl rfl rfl (by decide +kernel) ⟨by first | exact Nat.le_of_ble_eq_true rfl | (simp only [headSpec]; omega), by first | exact Nat.le_of_ble_eq_true rfl | (simp only [headSpec]; omega)⟩ hK hP hD hS hA [] (by decide) rfl rfl rfl hl.1 (Nat.le_of_ble_eq_true rfl) dX8_count_75 ⟨Nat.zero_le _, Nat.zero_le _⟩ (fun hp5 H locs hP hS => ?_)
    have h9 := Option.some.inj h
    have e9 : x5 = r0 := congrArg (fun z9 => z9) h9
    rw [← e9]
    exact k_iret hx hb hr hlocks hP hS rfl dX8_count_78
  have h := it_n h c4
  by_cases c6 : p0 = (4 : Int32)
  · have h := it_p h c6
    refine lv_tableIn (tgt := 79) hx hb dX8_count_1 (by rw [c6]; decide) (by rw [c6]; decide) (off := 78) (by rw [c6]; decide) (by decide) ?_
    refine lv_aload_n hx hb dX8_count_79 rfl (lv_at hl 0 rfl) ?_
    refine va_get (D := G) (ci := 7) (v := .ref h_t_deeds) (C := RX8) (T := TX8) (N := 9) hx hb hts hinX8 hown hK hP 0 rfl rfl 2 (by decide) (hta _ mw_362) (fun _ h9 => h9) rfl dX8_count_80 ?_
    obtain ⟨x7, hx7, h⟩ := bd_e h
    try dsimp only at h
    refine k_ViU (n := 0) (As := []) (rest := []) hx hb hml hown hts (c_X0_undoable l G cI cJ cD cH s.heap.size h_t_deeds h_t_deeds_desks t_deeds_now t_deeds_last x7 hx7) gX8_count_X0_undoable rfl rfl rfl (by decide +kernel) ⟨by first | exact Nat.le_of_ble_eq_true rfl | (simp only [headSpec]; omega), by first | exact Nat.le_of_ble_eq_true rfl | (simp only [headSpec]; omega)⟩ hK hP hD hS hA [2] (by decide) rfl (ci := 0) rfl rfl rfl rfl rfl hl.1 (Nat.le_of_ble_eq_true rfl) dX8_count_83 ⟨Nat.zero_le _, Nat.zero_le _⟩ (fun hp7 H locs hP hS => ?_)
    have h9 := Option.some.inj h
    have e9 : x7 = r0 := congrArg (fun z9 => z9) h9
    rw [← e9]
    exact k_iret hx hb hr hlocks hP hS rfl dX8_count_86
  have h := it_n h c6
  by_cases c8 : p0 = (5 : Int32)
  · have h := it_p h c8
    refine lv_tableIn (tgt := 87) hx hb dX8_count_1 (by rw [c8]; decide) (by rw [c8]; decide) (off := 86) (by rw [c8]; decide) (by decide) ?_
    refine lv_aload_n hx hb dX8_count_87 rfl (lv_at hl 0 rfl) ?_
    refine va_get (D := G) (ci := 7) (v := .ref h_t_deeds) (C := RX8) (T := TX8) (N := 9) hx hb hts hinX8 hown hK hP 0 rfl rfl 2 (by decide) (hta _ mw_362) (fun _ h9 => h9) rfl dX8_count_88 ?_
    obtain ⟨x9, hx9, h⟩ := bd_e h
    try dsimp only at h
    refine k_ViU (n := 0) (As := []) (rest := []) hx hb hml hown hts (c_X0_repeatable l G cI cJ cD cH s.heap.size h_t_deeds h_t_deeds_desks t_deeds_now t_deeds_last x9 hx9) gX8_count_X0_repeatable rfl rfl rfl (by decide +kernel) ⟨by first | exact Nat.le_of_ble_eq_true rfl | (simp only [headSpec]; omega), by first | exact Nat.le_of_ble_eq_true rfl | (simp only [headSpec]; omega)⟩ hK hP hD hS hA [2] (by decide) rfl (ci := 0) rfl rfl rfl rfl rfl hl.1 (Nat.le_of_ble_eq_true rfl) dX8_count_91 ⟨Nat.zero_le _, Nat.zero_le _⟩ (fun hp9 H locs hP hS => ?_)
    have h9 := Option.some.inj h
    have e9 : x9 = r0 := congrArg (fun z9 => z9) h9
    rw [← e9]
    exact k_iret hx hb hr hlocks hP hS rfl dX8_count_94
  have h := it_n h c8
  by_cases c10 : p0 = (6 : Int32)
  · have h := it_p h c10
    refine lv_tableIn (tgt := 95) hx hb dX8_count_1 (by rw [c10]; decide) (by rw [c10]; decide) (off := 94) (by rw [c10]; decide) (by decide) ?_
    refine lv_aload_n hx hb dX8_count_95 rfl (lv_at hl 0 rfl) ?_
    refine va_get (D := G) (ci := 7) (v := .ref h_t_tape) (C := RX8) (T := TX8) (N := 9) hx hb hts hinX8 hown hK hP 0 rfl rfl 4 (by decide) (hta _ mw_370) (fun _ h9 => h9) rfl dX8_count_96 ?_
    refine va_get (D := G) (ci := 6) (v := .int t_tape_size) (C := RX7) (T := TX7) (N := 2) hx hb hts hinX7 hown hK hP 3 rfl rfl 1 (by decide) (hta _ mw_535) (fun _ h9 => h9) rfl dX8_count_99 ?_
    have h9 := Option.some.inj h
    have e9 : t_tape_size = r0 := congrArg (fun z9 => z9) h9
    rw [← e9]
    exact k_iret hx hb hr hlocks hP hS rfl dX8_count_102
  have h := it_n h c10
  refine lv_tableOut (tgt := 103) hx hb dX8_count_1 (k_tout7  c1 c2 c3 c4 c6 c8 c10) (by decide) ?_
  refine lv_iconst (v := (-1 : Int32)) hx hb dX8_count_103 (by decide) ?_
  have h9 := Option.some.inj h
  have e9 : (-1 : Int32) = r0 := congrArg (fun z9 => z9) h9
  rw [← e9]
  exact k_iret hx hb hr hlocks hP hS rfl dX8_count_104

/-! X9_in -/
set_option maxHeartbeats 4000000 in
set_option maxRecDepth 100000 in
theorem c_X9_in (l : Launch) (G : va_G) (cI cJ cD cH : ClassId) (sz : Nat) (p0 : Int64) (p1 : Int64) (p2 : Int64) (r0 : Int32) (hF : F_X9_in p0 p1 p2 = some r0) : Met l yX9_in wsX9_in ({ frames := 0, cells := 0, slots := 0, locals := 0 }) (k_pre G (k_T cI cJ cD cH) [] sz [.long p0, .long p1, .long p2]) (va_Qi (fun r (_ : Unit) => r = r0 ∧ narrow .boolean (.int r0) = .int r0) (fun _ t => va_P G vwCl [] t.heap) (va_A [] sz)) 0 0 (va_A [] sz) := by
  refine Met.ofW (cc := cX9_in) (maxL := 6) (ret := (some .boolean)) (by decide) rfl ?_
  intro p e s m args below meth c s₁ B hml hv
  obtain ⟨rfl, hsz, hP, hK, hD0⟩ := hv
  have hx := B.exec
  have hb := B.bytes
  have hr := B.returns
  have hts := atoms_spec (ws := wsX9_in) B.pre
  have hta : ∀ w ∈ wA, w.before ([.long p0, .long p1, .long p2] : List Value).toArray s = true := hta_of hts
  have hown : s.vm.findClass RX9 = some m.cls := findClass_of_methodNamed B.named
  have hlocks := B.notSynchronized
  subst hsz
  have hD := hD0.self (sz := s.heap.size)
  generalize hAe : va_A [] s.heap.size = A at hD ⊢
  have hA : ∀ q : Nat, s.heap.size ≤ q → A q := fun q h => by rw [← hAe]; exact Or.inr h
  have hS : va_S A s.heap s.heap [] := va_S.rf
  have hl := lv_entry ([.long p0, .long p1, .long p2]) (n := 6) (Nat.le_of_ble_eq_true rfl)
  rw [lg_entry_eq]
  generalize (lg_sl ([.long p0, .long p1, .long p2]) ++ List.replicate (6 - (lg_sl ([.long p0, .long p1, .long p2])).length) Slot.unset).toArray = ls at hl ⊢
  have hl : lv_has ls 6 [(0, .long p0), (2, .long p1), (4, .long p2)] := hl
  have h := hF
  unfold F_X9_in at h
  refine lv_lload_n hx hb dX9_in_0 rfl (lv_at hl 0 rfl) ?_
  refine lv_lload_n hx hb dX9_in_1 rfl (lv_at hl 1 rfl) ?_
  refine W.lcmp hx hb dX9_in_2 ?_
  refine lv_if_lt (tgt := 17) hx hb dX9_in_3 (by decide) (fun c1 => ?_) (fun c1 => ?_)
  · have h := it_p h c1
    refine lv_iconst (v := (0 : Int32)) hx hb dX9_in_17 (by decide) ?_
    have h9 := Option.some.inj h
    have e9 : (0 : Int32) = r0 := congrArg (fun z9 => z9) h9
    rw [← e9]
    exact k_zret hx hb hr hlocks hP hS rfl rfl dX9_in_18
  have h := it_n h c1
  refine lv_lload_n hx hb dX9_in_6 rfl (lv_at hl 0 rfl) ?_
  refine lv_lload hx hb dX9_in_7 (lv_at hl 2 rfl) ?_
  refine W.lcmp hx hb dX9_in_9 ?_
  refine lv_if_gt (tgt := 17) hx hb dX9_in_10 (by decide) (fun c2 => ?_) (fun c2 => ?_)
  · have h := it_p h c2
    refine lv_iconst (v := (0 : Int32)) hx hb dX9_in_17 (by decide) ?_
    have h9 := Option.some.inj h
    have e9 : (0 : Int32) = r0 := congrArg (fun z9 => z9) h9
    rw [← e9]
    exact k_zret hx hb hr hlocks hP hS rfl rfl dX9_in_18
  have h := it_n h c2
  refine lv_iconst (v := (1 : Int32)) hx hb dX9_in_13 (by decide) ?_
  refine lv_goto (tgt := 18) hx hb dX9_in_14 (by decide) ?_
  have h9 := Option.some.inj h
  have e9 : (1 : Int32) = r0 := congrArg (fun z9 => z9) h9
  rw [← e9]
  exact k_zret hx hb hr hlocks hP hS rfl rfl dX9_in_18

/-! X9_common -/
set_option maxHeartbeats 4000000 in
set_option maxRecDepth 100000 in
theorem tJ_X9_common_12 {l : Launch} {G : va_G} {cI cJ cD cH : ClassId} {p0 : Int64} {p1 : Int64} {r0 : Int64} {p : Program} {e : Env} {s : State} {m : MethodId} {below : List Frame} {meth : Method} {c : Code} {A : Nat → Prop} (hx : p.tables.exec = Jvm.exec) (hb : c.code = cX9_common) (hr : meth.sig.returnType = (some .long)) (hml : c.maxLocals = 10) (hts : ∀ w ∈ wsX9_common, w.before ([.long p0, .long p1] : List Value).toArray s = true) (hown : s.vm.findClass RX9 = some m.cls) (hlocks : meth.locks = false) (hK : va_K G vwCl (k_T cI cJ cD cH) s) (hA : ∀ q : Nat, s.heap.size ≤ q → A q) : ∀  (vJ12_0 : Int64) (H : Heap) (locs : List Loc) (ls : Array Slot), va_P G vwCl [] H → va_D A [] → va_S A s.heap H locs → lv_has ls 10 [(2, .long p1)] → J_X9_common_12 p1 vJ12_0 = some r0 → W p l e (headSpec wsX9_common ({ frames := 0, cells := 0, slots := 0, locals := 0 })).room s m ([.long p0, .long p1] : List Value).toArray below meth c H locs 0 0 (MQ below (va_Ql (fun r (_ : Unit) => r = r0 ∧ True) (fun _ t => va_P G vwCl [] t.heap) A) ([.long p0, .long p1] : List Value).toArray s 0 0 A) (F0 m 12 ls [.long vJ12_0]) := by
  have hta : ∀ w ∈ wA, w.before ([.long p0, .long p1] : List Value).toArray s = true := hta_of hts
  intro vJ12_0 H locs ls hP hD hS hl h
  unfold J_X9_common_12 at h
  refine lv_lstore (lv' := [(4, .long vJ12_0), (2, .long p1)]) hx hb dX9_common_12 hl (by decide) rfl (fun ls hl => ?_)
  refine lv_lload_n hx hb dX9_common_14 rfl (lv_at hl 1 rfl) ?_
  refine lv_lconst (v := (0 : Int64)) hx hb dX9_common_15 (by decide) ?_
  refine W.lcmp hx hb dX9_common_16 ?_
  refine lv_if_ge (tgt := 25) hx hb dX9_common_17 (by decide) (fun c1 => ?_) (fun c1 => ?_)
  · have h := it_p h c1
    refine lv_lload_n hx hb dX9_common_25 rfl (lv_at hl 1 rfl) ?_
    refine lv_lstore (lv' := [(6, .long p1), (4, .long vJ12_0), (2, .long p1)]) hx hb dX9_common_26 hl (by decide) rfl (fun ls hl => ?_)
    have hK_X9_common_28_53 : ∀  (vK28_53_0 : Int64) (H : Heap) (locs : List Loc) (ls : Array Slot), va_P G vwCl [] H → va_D A [] → va_S A s.heap H locs → lv_has ls 10 [(4, .long vK28_53_0)] → K_X9_common_28_53 vK28_53_0 = some r0 → W p l e (headSpec wsX9_common ({ frames := 0, cells := 0, slots := 0, locals := 0 })).room s m ([.long p0, .long p1] : List Value).toArray below meth c H locs 0 0 (MQ below (va_Ql (fun r (_ : Unit) => r = r0 ∧ True) (fun _ t => va_P G vwCl [] t.heap) A) ([.long p0, .long p1] : List Value).toArray s 0 0 A) (F0 m 53 ls []) := by
      intro vK28_53_0 H locs ls hP hD hS hl h
      unfold K_X9_common_28_53 at h
      refine lv_lload hx hb dX9_common_53 (lv_at hl 0 rfl) ?_
      have h9 := Option.some.inj h
      have e9 : vK28_53_0 = r0 := congrArg (fun z9 => z9) h9
      rw [← e9]
      exact k_lret hx hb hr hlocks hP hS rfl dX9_common_55
    have hL28 : ∀ (n28 : Nat) (vL28_0 : Int64) (vL28_1 : Int64) (H : Heap) (locs : List Loc) (ls : Array Slot), va_P G vwCl [] H → va_D A [] → va_S A s.heap H locs → lv_has ls 10 [(4, .long vL28_0), (6, .long vL28_1)] → wq2 (B_X9_common_28 K_X9_common_28_53) n28 vL28_0 vL28_1 = some r0 → W p l e (headSpec wsX9_common ({ frames := 0, cells := 0, slots := 0, locals := 0 })).room s m ([.long p0, .long p1] : List Value).toArray below meth c H locs 0 0 (MQ below (va_Ql (fun r (_ : Unit) => r = r0 ∧ True) (fun _ t => va_P G vwCl [] t.heap) A) ([.long p0, .long p1] : List Value).toArray s 0 0 A) (F0 m 28 ls []) := by
      intro n28
      induction n28 with
      | zero => intro vL28_0 vL28_1 H locs ls hP hD hS hl h; exact wq2_0 h
      | succ n28 ih28 =>
        intro vL28_0 vL28_1 H locs ls hP hD hS hl h
        have h := wq2_s h
        unfold B_X9_common_28 at h
        refine lv_lload hx hb dX9_common_28 (lv_at hl 1 rfl) ?_
        refine lv_lconst (v := (0 : Int64)) hx hb dX9_common_30 (by decide) ?_
        refine W.lcmp hx hb dX9_common_31 ?_
        refine lv_if_eq (tgt := 53) hx hb dX9_common_32 (by decide) (fun c2 => ?_) (fun c2 => ?_)
        · have h := it_p h c2
          exact hK_X9_common_28_53 vL28_0 _ _ _ hP hD hS (lv_sub hl [0] rfl) h
        have h := it_n h c2
        refine lv_lload hx hb dX9_common_35 (lv_at hl 0 rfl) ?_
        refine lv_lload hx hb dX9_common_37 (lv_at hl 1 rfl) ?_
        obtain ⟨hz3, h⟩ := dvl_e h
        refine lv_lrem hx hb dX9_common_39 hz3 ?_
        refine lv_lstore (lv' := [(8, .long (vL28_0 - vL28_0 / vL28_1 * vL28_1)), (4, .long vL28_0), (6, .long vL28_1)]) hx hb dX9_common_40 hl (by decide) rfl (fun ls hl => ?_)
        refine lv_lload hx hb dX9_common_42 (lv_at hl 2 rfl) ?_
        refine lv_lstore (lv' := [(4, .long vL28_1), (8, .long (vL28_0 - vL28_0 / vL28_1 * vL28_1)), (6, .long vL28_1)]) hx hb dX9_common_44 hl (by decide) rfl (fun ls hl => ?_)
        refine lv_lload hx hb dX9_common_46 (lv_at hl 1 rfl) ?_
        refine lv_lstore (lv' := [(6, .long (vL28_0 - vL28_0 / vL28_1 * vL28_1)), (4, .long vL28_1), (8, .long (vL28_0 - vL28_0 / vL28_1 * vL28_1))]) hx hb dX9_common_48 hl (by decide) rfl (fun ls hl => ?_)
        refine lv_goto (tgt := 28) hx hb dX9_common_50 (by decide) ?_
        exact ih28 vL28_1 (vL28_0 - vL28_0 / vL28_1 * vL28_1) _ _ _ hP hD hS (lv_sub hl [1, 0] rfl) h
    exact hL28 FU vJ12_0 p1 _ _ _ hP hD hS (lv_sub hl [1, 0] rfl) h
  have h := it_n h c1
  refine lv_lload_n hx hb dX9_common_20 rfl (lv_at hl 1 rfl) ?_
  refine lv_lneg hx hb dX9_common_21 ?_
  refine lv_goto (tgt := 26) hx hb dX9_common_22 (by decide) ?_
  refine lv_lstore (lv' := [(6, .long (-p1)), (4, .long vJ12_0), (2, .long p1)]) hx hb dX9_common_26 hl (by decide) rfl (fun ls hl => ?_)
  have hK_X9_common_28_53x1 : ∀  (vK28_53_0 : Int64) (H : Heap) (locs : List Loc) (ls : Array Slot), va_P G vwCl [] H → va_D A [] → va_S A s.heap H locs → lv_has ls 10 [(4, .long vK28_53_0)] → K_X9_common_28_53x1 vK28_53_0 = some r0 → W p l e (headSpec wsX9_common ({ frames := 0, cells := 0, slots := 0, locals := 0 })).room s m ([.long p0, .long p1] : List Value).toArray below meth c H locs 0 0 (MQ below (va_Ql (fun r (_ : Unit) => r = r0 ∧ True) (fun _ t => va_P G vwCl [] t.heap) A) ([.long p0, .long p1] : List Value).toArray s 0 0 A) (F0 m 53 ls []) := by
    intro vK28_53_0 H locs ls hP hD hS hl h
    unfold K_X9_common_28_53x1 at h
    refine lv_lload hx hb dX9_common_53 (lv_at hl 0 rfl) ?_
    have h9 := Option.some.inj h
    have e9 : vK28_53_0 = r0 := congrArg (fun z9 => z9) h9
    rw [← e9]
    exact k_lret hx hb hr hlocks hP hS rfl dX9_common_55
  have hL28x1 : ∀ (n28 : Nat) (vL28_0 : Int64) (vL28_1 : Int64) (H : Heap) (locs : List Loc) (ls : Array Slot), va_P G vwCl [] H → va_D A [] → va_S A s.heap H locs → lv_has ls 10 [(4, .long vL28_0), (6, .long vL28_1)] → wq2 (B_X9_common_28x1 K_X9_common_28_53x1) n28 vL28_0 vL28_1 = some r0 → W p l e (headSpec wsX9_common ({ frames := 0, cells := 0, slots := 0, locals := 0 })).room s m ([.long p0, .long p1] : List Value).toArray below meth c H locs 0 0 (MQ below (va_Ql (fun r (_ : Unit) => r = r0 ∧ True) (fun _ t => va_P G vwCl [] t.heap) A) ([.long p0, .long p1] : List Value).toArray s 0 0 A) (F0 m 28 ls []) := by
    intro n28
    induction n28 with
    | zero => intro vL28_0 vL28_1 H locs ls hP hD hS hl h; exact wq2_0 h
    | succ n28 ih28 =>
      intro vL28_0 vL28_1 H locs ls hP hD hS hl h
      have h := wq2_s h
      unfold B_X9_common_28x1 at h
      refine lv_lload hx hb dX9_common_28 (lv_at hl 1 rfl) ?_
      refine lv_lconst (v := (0 : Int64)) hx hb dX9_common_30 (by decide) ?_
      refine W.lcmp hx hb dX9_common_31 ?_
      refine lv_if_eq (tgt := 53) hx hb dX9_common_32 (by decide) (fun c4 => ?_) (fun c4 => ?_)
      · have h := it_p h c4
        exact hK_X9_common_28_53x1 vL28_0 _ _ _ hP hD hS (lv_sub hl [0] rfl) h
      have h := it_n h c4
      refine lv_lload hx hb dX9_common_35 (lv_at hl 0 rfl) ?_
      refine lv_lload hx hb dX9_common_37 (lv_at hl 1 rfl) ?_
      obtain ⟨hz5, h⟩ := dvl_e h
      refine lv_lrem hx hb dX9_common_39 hz5 ?_
      refine lv_lstore (lv' := [(8, .long (vL28_0 - vL28_0 / vL28_1 * vL28_1)), (4, .long vL28_0), (6, .long vL28_1)]) hx hb dX9_common_40 hl (by decide) rfl (fun ls hl => ?_)
      refine lv_lload hx hb dX9_common_42 (lv_at hl 2 rfl) ?_
      refine lv_lstore (lv' := [(4, .long vL28_1), (8, .long (vL28_0 - vL28_0 / vL28_1 * vL28_1)), (6, .long vL28_1)]) hx hb dX9_common_44 hl (by decide) rfl (fun ls hl => ?_)
      refine lv_lload hx hb dX9_common_46 (lv_at hl 1 rfl) ?_
      refine lv_lstore (lv' := [(6, .long (vL28_0 - vL28_0 / vL28_1 * vL28_1)), (4, .long vL28_1), (8, .long (vL28_0 - vL28_0 / vL28_1 * vL28_1))]) hx hb dX9_common_48 hl (by decide) rfl (fun ls hl => ?_)
      refine lv_goto (tgt := 28) hx hb dX9_common_50 (by decide) ?_
      exact ih28 vL28_1 (vL28_0 - vL28_0 / vL28_1 * vL28_1) _ _ _ hP hD hS (lv_sub hl [1, 0] rfl) h
  exact hL28x1 FU vJ12_0 (-p1) _ _ _ hP hD hS (lv_sub hl [1, 0] rfl) h
set_option maxHeartbeats 4000000 in
set_option maxRecDepth 100000 in
theorem c_X9_common (l : Launch) (G : va_G) (cI cJ cD cH : ClassId) (sz : Nat) (p0 : Int64) (p1 : Int64) (r0 : Int64) (hF : F_X9_common p0 p1 = some r0) : Met l yX9_common wsX9_common ({ frames := 0, cells := 0, slots := 0, locals := 0 }) (k_pre G (k_T cI cJ cD cH) [] sz [.long p0, .long p1]) (va_Ql (fun r (_ : Unit) => r = r0 ∧ True) (fun _ t => va_P G vwCl [] t.heap) (va_A [] sz)) 0 0 (va_A [] sz) := by
  refine Met.ofW (cc := cX9_common) (maxL := 10) (ret := (some .long)) (by decide) rfl ?_
  intro p e s m args below meth c s₁ B hml hv
  obtain ⟨rfl, hsz, hP, hK, hD0⟩ := hv
  have hx := B.exec
  have hb := B.bytes
  have hr := B.returns
  have hts := atoms_spec (ws := wsX9_common) B.pre
  have hta : ∀ w ∈ wA, w.before ([.long p0, .long p1] : List Value).toArray s = true := hta_of hts
  have hown : s.vm.findClass RX9 = some m.cls := findClass_of_methodNamed B.named
  have hlocks := B.notSynchronized
  subst hsz
  have hD := hD0.self (sz := s.heap.size)
  generalize hAe : va_A [] s.heap.size = A at hD ⊢
  have hA : ∀ q : Nat, s.heap.size ≤ q → A q := fun q h => by rw [← hAe]; exact Or.inr h
  have hS : va_S A s.heap s.heap [] := va_S.rf
  have hl := lv_entry ([.long p0, .long p1]) (n := 10) (Nat.le_of_ble_eq_true rfl)
  rw [lg_entry_eq]
  generalize (lg_sl ([.long p0, .long p1]) ++ List.replicate (10 - (lg_sl ([.long p0, .long p1])).length) Slot.unset).toArray = ls at hl ⊢
  have hl : lv_has ls 10 [(0, .long p0), (2, .long p1)] := hl
  have h := hF
  unfold F_X9_common at h
  refine lv_lload_n hx hb dX9_common_0 rfl (lv_at hl 0 rfl) ?_
  refine lv_lconst (v := (0 : Int64)) hx hb dX9_common_1 (by decide) ?_
  refine W.lcmp hx hb dX9_common_2 ?_
  refine lv_if_ge (tgt := 11) hx hb dX9_common_3 (by decide) (fun c6 => ?_) (fun c6 => ?_)
  · have h := it_p h c6
    refine lv_lload_n hx hb dX9_common_11 rfl (lv_at hl 0 rfl) ?_
    exact tJ_X9_common_12 hx hb hr hml hts hown hlocks hK hA p0 _ _ _ hP hD hS (lv_sub hl [1] rfl) h
  have h := it_n h c6
  refine lv_lload_n hx hb dX9_common_6 rfl (lv_at hl 0 rfl) ?_
  refine lv_lneg hx hb dX9_common_7 ?_
  refine lv_goto (tgt := 12) hx hb dX9_common_8 (by decide) ?_
  exact tJ_X9_common_12 hx hb hr hml hts hown hlocks hK hA (-p0) _ _ _ hP hD hS (lv_sub hl [1] rfl) h
