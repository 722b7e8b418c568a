/-! X8_keyWith -/
set_option maxHeartbeats 4000000 in
set_option maxRecDepth 100000 in
theorem tJ_X8_keyWith_89 {l : Launch} {G : va_G} {cI cJ cD cH : ClassId} {h_t : Nat} {h_t_numbers : Nat} {h_t_desk : Nat} {h_t_desk_powers : Nat} {h_t_imageDesk : Nat} {h_t_deeds : Nat} {h_t_tape : Nat} {h_t_reader : Nat} {h_t_speller : Nat} {h_t_holders : Nat} {h_t_numbers_keys : Nat} {h_t_numbers_aboves : Nat} {h_t_numbers_rounds : Nat} {t_imageKept : Int32} {t_numbers_round : Int32} {t_desk_genus : Int32} {t_desk_size : Int32} {t_desk_limit : Int32} {t_desk_tree : Int64} {a_t_desk_powers : Nat → Int32} {p0 : Int32} {p1 : Int32} {p2 : Int32} {r0 : Int64} {w0 : Int32} {w1 : Int32} {w2 : Int64} {p : Program} {e : Env} {s : State} {m : MethodId} {below : List Frame} {meth : Method} {c : Code} {A : Nat → Prop} (hx : p.tables.exec = Jvm.exec) (hb : c.code = cX8_keyWith) (hr : meth.sig.returnType = (some .long)) (hml : c.maxLocals = 5) (hts : ∀ w ∈ wsX8_keyWith, w.before ([.ref h_t, .int p0, .int p1, .int p2] : List Value).toArray s = true) (hown : s.vm.findClass RX8 = some m.cls) (hlocks : meth.locks = false) (hK : va_K G vwCl (k_T cI cJ cD cH) s) (hA : ∀ q : Nat, s.heap.size ≤ q → A q) : ∀  (vJ89_0 : Int32) (vJ89_1 : Int32) (vJ89_2 : Int64) (H : Heap) (locs : List Loc) (ls : Array Slot), va_P G vwCl [(h_t, .inr (7, [.ref h_t_desk, .ref h_t_imageDesk, .ref h_t_deeds, .ref h_t_numbers, .ref h_t_tape, .ref h_t_reader, .ref h_t_speller, .ref h_t_holders, .int t_imageKept])), (h_t_numbers, .inr (3, [.ref h_t_numbers_keys, .ref h_t_numbers_aboves, .ref h_t_numbers_rounds, .int t_numbers_round, .int vJ89_0, .int vJ89_1, .long vJ89_2])), (h_t_desk, .inr (1, [.int t_desk_genus, .int t_desk_size, .ref h_t_desk_powers, .int t_desk_limit, .long t_desk_tree])), (h_t_desk_powers, .inl (cI, 8, .inl a_t_desk_powers))] H → va_D A [(h_t, .inr (7, [.ref h_t_desk, .ref h_t_imageDesk, .ref h_t_deeds, .ref h_t_numbers, .ref h_t_tape, .ref h_t_reader, .ref h_t_speller, .ref h_t_holders, .int t_imageKept])), (h_t_numbers, .inr (3, [.ref h_t_numbers_keys, .ref h_t_numbers_aboves, .ref h_t_numbers_rounds, .int t_numbers_round, .int vJ89_0, .int vJ89_1, .long vJ89_2])), (h_t_desk, .inr (1, [.int t_desk_genus, .int t_desk_size, .ref h_t_desk_powers, .int t_desk_limit, .long t_desk_tree])), (h_t_desk_powers, .inl (cI, 8, .inl a_t_desk_powers))] → va_S A s.heap H locs → lv_has ls 5 [(0, .ref h_t)] → J_X8_keyWith_89 t_desk_genus vJ89_0 vJ89_1 vJ89_2 = some (r0, w0, w1, w2) → W p l e (headSpec wsX8_keyWith ({ frames := 1, cells := 0, slots := 0, locals := 21 })).room s m ([.ref h_t, .int p0, .int p1, .int p2] : List Value).toArray below meth c H locs 0 0 (MQ below (va_Ql (fun r (_ : Unit) => r = r0 ∧ True) (fun _ t => va_P G vwCl [(h_t, .inr (7, [.ref h_t_desk, .ref h_t_imageDesk, .ref h_t_deeds, .ref h_t_numbers, .ref h_t_tape, .ref h_t_reader, .ref h_t_speller, .ref h_t_holders, .int t_imageKept])), (h_t_numbers, .inr (3, [.ref h_t_numbers_keys, .ref h_t_numbers_aboves, .ref h_t_numbers_rounds, .int t_numbers_round, .int w0, .int w1, .long w2])), (h_t_desk, .inr (1, [.int t_desk_genus, .int t_desk_size, .ref h_t_desk_powers, .int t_desk_limit, .long t_desk_tree])), (h_t_desk_powers, .inl (cI, 8, .inl a_t_desk_powers))] t.heap) A) ([.ref h_t, .int p0, .int p1, .int p2] : List Value).toArray s 0 0 A) (F0 m 89 ls []) := by
  have hta : ∀ w ∈ wA, w.before ([.ref h_t, .int p0, .int p1, .int p2] : List Value).toArray s = true := hta_of hts
  have hinX1 : ∀ w ∈ wsX10, w ∈ wsX8_keyWith := hin_of in_X1
  have hinX8 : ∀ w ∈ wsX80, w ∈ wsX8_keyWith := hin_of in_X8
  intro vJ89_0 vJ89_1 vJ89_2 H locs ls hP hD hS hl h
  unfold J_X8_keyWith_89 at h
  refine lv_aload_n hx hb dX8_keyWith_89 rfl (lv_at hl 0 rfl) ?_
  refine va_get (D := G) (ci := 7) (v := .ref h_t_numbers) (C := RX8) (T := TX8) (N := 9) hx hb hts hinX8 hown hK hP 0 rfl rfl 3 (by decide) (hta _ mw_365) (fun _ h9 => h9) rfl dX8_keyWith_90 ?_
  refine lv_aload_n hx hb dX8_keyWith_93 rfl (lv_at hl 0 rfl) ?_
  refine va_get (D := G) (ci := 7) (v := .ref h_t_desk) (C := RX8) (T := TX8) (N := 9) hx hb hts hinX8 hown hK hP 0 rfl rfl 0 (by decide) (hta _ mw_358) (fun _ h9 => h9) rfl dX8_keyWith_94 ?_
  refine va_get (D := G) (ci := 1) (v := .int t_desk_genus) (C := RX1) (T := TX1) (N := 5) hx hb hts hinX1 hown hK hP 2 rfl rfl 0 (by decide) (hta _ mw_389) (fun _ h9 => h9) rfl dX8_keyWith_97 ?_
  obtain ⟨x2, hx2, h⟩ := bd_e h
  try dsimp only at h
  refine k_VlU (n := 1) (As := [.int t_desk_genus]) (rest := []) hx hb hml hown hts (c_X3_keyFor l G cI cJ cD cH H.size h_t_numbers h_t_numbers_keys h_t_numbers_aboves h_t_numbers_rounds t_numbers_round vJ89_0 vJ89_1 vJ89_2 t_desk_genus x2 hx2) gX8_keyWith_X3_keyFor rfl rfl rfl (by decide +kernel) ⟨by first | exact Nat.le_of_ble_eq_true rfl | (simp only [headSpec]; omega), by first | exact Nat.le_of_ble_eq_true rfl | (simp only [headSpec]; omega)⟩ hK hP hD hS hA [1] (by decide) rfl (ci := 3) rfl rfl rfl rfl rfl hl.1 (Nat.le_of_ble_eq_true rfl) dX8_keyWith_100 ⟨Nat.zero_le _, Nat.zero_le _⟩ (fun hp2 H locs hP hS => ?_)
  have h9 := Option.some.inj h
  have e9 : x2 = r0 := congrArg (fun z9 => z9.1) h9
  rw [← e9]
  have e9 : vJ89_0 = w0 := congrArg (fun z9 => z9.2.1) h9
  rw [← e9]
  have e9 : vJ89_1 = w1 := congrArg (fun z9 => z9.2.2.1) h9
  rw [← e9]
  have e9 : vJ89_2 = w2 := congrArg (fun z9 => z9.2.2.2) h9
  rw [← e9]
  exact k_lret hx hb hr hlocks hP hS rfl dX8_keyWith_103
set_option maxHeartbeats 4000000 in
set_option maxRecDepth 100000 in
theorem tJ_X8_keyWith_74 {l : Launch} {G : va_G} {cI cJ cD cH : ClassId} {h_t : Nat} {h_t_numbers : Nat} {h_t_desk : Nat} {h_t_desk_powers : Nat} {h_t_imageDesk : Nat} {h_t_deeds : Nat} {h_t_tape : Nat} {h_t_reader : Nat} {h_t_speller : Nat} {h_t_holders : Nat} {h_t_numbers_keys : Nat} {h_t_numbers_aboves : Nat} {h_t_numbers_rounds : Nat} {t_imageKept : Int32} {t_numbers_round : Int32} {t_desk_genus : Int32} {t_desk_size : Int32} {t_desk_limit : Int32} {t_desk_tree : Int64} {a_t_desk_powers : Nat → Int32} {p0 : Int32} {p1 : Int32} {p2 : Int32} {r0 : Int64} {w0 : Int32} {w1 : Int32} {w2 : Int64} {p : Program} {e : Env} {s : State} {m : MethodId} {below : List Frame} {meth : Method} {c : Code} {A : Nat → Prop} (hx : p.tables.exec = Jvm.exec) (hb : c.code = cX8_keyWith) (hr : meth.sig.returnType = (some .long)) (hml : c.maxLocals = 5) (hts : ∀ w ∈ wsX8_keyWith, w.before ([.ref h_t, .int p0, .int p1, .int p2] : List Value).toArray s = true) (hown : s.vm.findClass RX8 = some m.cls) (hlocks : meth.locks = false) (hK : va_K G vwCl (k_T cI cJ cD cH) s) (hA : ∀ q : Nat, s.heap.size ≤ q → A q) : ∀  (vJ74_0 : Int32) (vJ74_1 : Int32) (vJ74_2 : Int64) (H : Heap) (locs : List Loc) (ls : Array Slot), va_P G vwCl [(h_t, .inr (7, [.ref h_t_desk, .ref h_t_imageDesk, .ref h_t_deeds, .ref h_t_numbers, .ref h_t_tape, .ref h_t_reader, .ref h_t_speller, .ref h_t_holders, .int t_imageKept])), (h_t_numbers, .inr (3, [.ref h_t_numbers_keys, .ref h_t_numbers_aboves, .ref h_t_numbers_rounds, .int t_numbers_round, .int vJ74_0, .int vJ74_1, .long vJ74_2])), (h_t_desk, .inr (1, [.int t_desk_genus, .int t_desk_size, .ref h_t_desk_powers, .int t_desk_limit, .long t_desk_tree])), (h_t_desk_powers, .inl (cI, 8, .inl a_t_desk_powers))] H → va_D A [(h_t, .inr (7, [.ref h_t_desk, .ref h_t_imageDesk, .ref h_t_deeds, .ref h_t_numbers, .ref h_t_tape, .ref h_t_reader, .ref h_t_speller, .ref h_t_holders, .int t_imageKept])), (h_t_numbers, .inr (3, [.ref h_t_numbers_keys, .ref h_t_numbers_aboves, .ref h_t_numbers_rounds, .int t_numbers_round, .int vJ74_0, .int vJ74_1, .long vJ74_2])), (h_t_desk, .inr (1, [.int t_desk_genus, .int t_desk_size, .ref h_t_desk_powers, .int t_desk_limit, .long t_desk_tree])), (h_t_desk_powers, .inl (cI, 8, .inl a_t_desk_powers))] → va_S A s.heap H locs → lv_has ls 5 [(0, .ref h_t), (3, .int p2)] → J_X8_keyWith_74 t_desk_genus p2 vJ74_0 vJ74_1 vJ74_2 = some (r0, w0, w1, w2) → W p l e (headSpec wsX8_keyWith ({ frames := 1, cells := 0, slots := 0, locals := 21 })).room s m ([.ref h_t, .int p0, .int p1, .int p2] : List Value).toArray below meth c H locs 0 0 (MQ below (va_Ql (fun r (_ : Unit) => r = r0 ∧ True) (fun _ t => va_P G vwCl [(h_t, .inr (7, [.ref h_t_desk, .ref h_t_imageDesk, .ref h_t_deeds, .ref h_t_numbers, .ref h_t_tape, .ref h_t_reader, .ref h_t_speller, .ref h_t_holders, .int t_imageKept])), (h_t_numbers, .inr (3, [.ref h_t_numbers_keys, .ref h_t_numbers_aboves, .ref h_t_numbers_rounds, .int t_numbers_round, .int w0, .int w1, .long w2])), (h_t_desk, .inr (1, [.int t_desk_genus, .int t_desk_size, .ref h_t_desk_powers, .int t_desk_limit, .long t_desk_tree])), (h_t_desk_powers, .inl (cI, 8, .inl a_t_desk_powers))] t.heap) A) ([.ref h_t, .int p0, .int p1, .int p2] : List Value).toArray s 0 0 A) (F0 m 74 ls []) := by
  have hta : ∀ w ∈ wA, w.before ([.ref h_t, .int p0, .int p1, .int p2] : List Value).toArray s = true := hta_of hts
  have hinX1 : ∀ w ∈ wsX10, w ∈ wsX8_keyWith := hin_of in_X1
  have hinX8 : ∀ w ∈ wsX80, w ∈ wsX8_keyWith := hin_of in_X8
  intro vJ74_0 vJ74_1 vJ74_2 H locs ls hP hD hS hl h
  unfold J_X8_keyWith_74 at h
  refine lv_iload_n hx hb dX8_keyWith_74 rfl (lv_at hl 1 rfl) ?_
  refine lv_iconst (v := (-1 : Int32)) hx hb dX8_keyWith_75 (by decide) ?_
  refine lv_icmp_eq (tgt := 89) hx hb dX8_keyWith_76 (by decide) (fun c3 => ?_) (fun c3 => ?_)
  · have h := it_p h c3
    exact tJ_X8_keyWith_89 hx hb hr hml hts hown hlocks hK hA vJ74_0 vJ74_1 vJ74_2 _ _ _ hP hD hS (lv_sub hl [0] rfl) h
  have h := it_n h c3
  refine lv_aload_n hx hb dX8_keyWith_79 rfl (lv_at hl 0 rfl) ?_
  refine va_get (D := G) (ci := 7) (v := .ref h_t_numbers) (C := RX8) (T := TX8) (N := 9) hx hb hts hinX8 hown hK hP 0 rfl rfl 3 (by decide) (hta _ mw_365) (fun _ h9 => h9) rfl dX8_keyWith_80 ?_
  refine lv_iload_n hx hb dX8_keyWith_83 rfl (lv_at hl 1 rfl) ?_
  refine lv_iconst (v := (1 : Int32)) hx hb dX8_keyWith_84 (by decide) ?_
  refine lv_iadd hx hb dX8_keyWith_85 ?_
  obtain ⟨x4, hx4, h⟩ := bd_e h
  try dsimp only at h
  refine k_VvM (n := 1) (As := [.int (p2 + (1 : Int32))]) (rest := []) hx hb hml hown hts (c_X3_add l G cI cJ cD cH H.size h_t_numbers h_t_numbers_keys h_t_numbers_aboves h_t_numbers_rounds t_numbers_round vJ74_0 vJ74_1 vJ74_2 (p2 + (1 : Int32)) (x4.1) (x4.2.1) (x4.2.2) hx4) gX8_keyWith_X3_add rfl rfl rfl (by decide +kernel) ⟨by first | exact Nat.le_of_ble_eq_true rfl | (simp only [headSpec]; omega), by first | exact Nat.le_of_ble_eq_true rfl | (simp only [headSpec]; omega)⟩ hK hP hD hS hA [1] (by decide) rfl rfl (ci := 3) rfl rfl rfl rfl rfl hl.1 (Nat.le_of_ble_eq_true rfl) dX8_keyWith_86 ⟨Nat.zero_le _, Nat.zero_le _⟩ [(h_t, .inr (7, [.ref h_t_desk, .ref h_t_imageDesk, .ref h_t_deeds, .ref h_t_numbers, .ref h_t_tape, .ref h_t_reader, .ref h_t_speller, .ref h_t_holders, .int t_imageKept])), (h_t_numbers, .inr (3, [.ref h_t_numbers_keys, .ref h_t_numbers_aboves, .ref h_t_numbers_rounds, .int t_numbers_round, .int (x4.1), .int (x4.2.1), .long (x4.2.2)])), (h_t_desk, .inr (1, [.int t_desk_genus, .int t_desk_size, .ref h_t_desk_powers, .int t_desk_limit, .long t_desk_tree])), (h_t_desk_powers, .inl (cI, 8, .inl a_t_desk_powers))] [0, 1, 0, 0] 1 (by decide +kernel) rfl rfl rfl (fun hp4 H locs hP hD hS => ?_)
  exact tJ_X8_keyWith_89 hx hb hr hml hts hown hlocks hK hA (x4.1) (x4.2.1) (x4.2.2) _ _ _ hP hD hS (lv_sub hl [0] rfl) h
set_option maxHeartbeats 4000000 in
set_option maxRecDepth 100000 in
theorem tJ_X8_keyWith_59 {l : Launch} {G : va_G} {cI cJ cD cH : ClassId} {h_t : Nat} {h_t_numbers : Nat} {h_t_desk : Nat} {h_t_desk_powers : Nat} {h_t_imageDesk : Nat} {h_t_deeds : Nat} {h_t_tape : Nat} {h_t_reader : Nat} {h_t_speller : Nat} {h_t_holders : Nat} {h_t_numbers_keys : Nat} {h_t_numbers_aboves : Nat} {h_t_numbers_rounds : Nat} {t_imageKept : Int32} {t_numbers_round : Int32} {t_desk_genus : Int32} {t_desk_size : Int32} {t_desk_limit : Int32} {t_desk_tree : Int64} {a_t_desk_powers : Nat → Int32} {p0 : Int32} {p1 : Int32} {p2 : Int32} {r0 : Int64} {w0 : Int32} {w1 : Int32} {w2 : Int64} {p : Program} {e : Env} {s : State} {m : MethodId} {below : List Frame} {meth : Method} {c : Code} {A : Nat → Prop} (hx : p.tables.exec = Jvm.exec) (hb : c.code = cX8_keyWith) (hr : meth.sig.returnType = (some .long)) (hml : c.maxLocals = 5) (hts : ∀ w ∈ wsX8_keyWith, w.before ([.ref h_t, .int p0, .int p1, .int p2] : List Value).toArray s = true) (hown : s.vm.findClass RX8 = some m.cls) (hlocks : meth.locks = false) (hK : va_K G vwCl (k_T cI cJ cD cH) s) (hA : ∀ q : Nat, s.heap.size ≤ q → A q) : ∀  (vJ59_0 : Int32) (vJ59_1 : Int32) (vJ59_2 : Int64) (H : Heap) (locs : List Loc) (ls : Array Slot), va_P G vwCl [(h_t, .inr (7, [.ref h_t_desk, .ref h_t_imageDesk, .ref h_t_deeds, .ref h_t_numbers, .ref h_t_tape, .ref h_t_reader, .ref h_t_speller, .ref h_t_holders, .int t_imageKept])), (h_t_numbers, .inr (3, [.ref h_t_numbers_keys, .ref h_t_numbers_aboves, .ref h_t_numbers_rounds, .int t_numbers_round, .int vJ59_0, .int vJ59_1, .long vJ59_2])), (h_t_desk, .inr (1, [.int t_desk_genus, .int t_desk_size, .ref h_t_desk_powers, .int t_desk_limit, .long t_desk_tree])), (h_t_desk_powers, .inl (cI, 8, .inl a_t_desk_powers))] H → va_D A [(h_t, .inr (7, [.ref h_t_desk, .ref h_t_imageDesk, .ref h_t_deeds, .ref h_t_numbers, .ref h_t_tape, .ref h_t_reader, .ref h_t_speller, .ref h_t_holders, .int t_imageKept])), (h_t_numbers, .inr (3, [.ref h_t_numbers_keys, .ref h_t_numbers_aboves, .ref h_t_numbers_rounds, .int t_numbers_round, .int vJ59_0, .int vJ59_1, .long vJ59_2])), (h_t_desk, .inr (1, [.int t_desk_genus, .int t_desk_size, .ref h_t_desk_powers, .int t_desk_limit, .long t_desk_tree])), (h_t_desk_powers, .inl (cI, 8, .inl a_t_desk_powers))] → va_S A s.heap H locs → lv_has ls 5 [(0, .ref h_t), (2, .int p1), (3, .int p2)] → J_X8_keyWith_59 t_desk_genus p1 p2 vJ59_0 vJ59_1 vJ59_2 = some (r0, w0, w1, w2) → W p l e (headSpec wsX8_keyWith ({ frames := 1, cells := 0, slots := 0, locals := 21 })).room s m ([.ref h_t, .int p0, .int p1, .int p2] : List Value).toArray below meth c H locs 0 0 (MQ below (va_Ql (fun r (_ : Unit) => r = r0 ∧ True) (fun _ t => va_P G vwCl [(h_t, .inr (7, [.ref h_t_desk, .ref h_t_imageDesk, .ref h_t_deeds, .ref h_t_numbers, .ref h_t_tape, .ref h_t_reader, .ref h_t_speller, .ref h_t_holders, .int t_imageKept])), (h_t_numbers, .inr (3, [.ref h_t_numbers_keys, .ref h_t_numbers_aboves, .ref h_t_numbers_rounds, .int t_numbers_round, .int w0, .int w1, .long w2])), (h_t_desk, .inr (1, [.int t_desk_genus, .int t_desk_size, .ref h_t_desk_powers, .int t_desk_limit, .long t_desk_tree])), (h_t_desk_powers, .inl (cI, 8, .inl a_t_desk_powers))] t.heap) A) ([.ref h_t, .int p0, .int p1, .int p2] : List Value).toArray s 0 0 A) (F0 m 59 ls []) := by
  have hta : ∀ w ∈ wA, w.before ([.ref h_t, .int p0, .int p1, .int p2] : List Value).toArray s = true := hta_of hts
  have hinX1 : ∀ w ∈ wsX10, w ∈ wsX8_keyWith := hin_of in_X1
  have hinX8 : ∀ w ∈ wsX80, w ∈ wsX8_keyWith := hin_of in_X8
  intro vJ59_0 vJ59_1 vJ59_2 H locs ls hP hD hS hl h
  unfold J_X8_keyWith_59 at h
  refine lv_iload_n hx hb dX8_keyWith_59 rfl (lv_at hl 1 rfl) ?_
  refine lv_iconst (v := (-1 : Int32)) hx hb dX8_keyWith_60 (by decide) ?_
  refine lv_icmp_eq (tgt := 74) hx hb dX8_keyWith_61 (by decide) (fun c5 => ?_) (fun c5 => ?_)
  · have h := it_p h c5
    exact tJ_X8_keyWith_74 hx hb hr hml hts hown hlocks hK hA vJ59_0 vJ59_1 vJ59_2 _ _ _ hP hD hS (lv_sub hl [0, 2] rfl) h
  have h := it_n h c5
  refine lv_aload_n hx hb dX8_keyWith_64 rfl (lv_at hl 0 rfl) ?_
  refine va_get (D := G) (ci := 7) (v := .ref h_t_numbers) (C := RX8) (T := TX8) (N := 9) hx hb hts hinX8 hown hK hP 0 rfl rfl 3 (by decide) (hta _ mw_365) (fun _ h9 => h9) rfl dX8_keyWith_65 ?_
  refine lv_iload_n hx hb dX8_keyWith_68 rfl (lv_at hl 1 rfl) ?_
  refine lv_iconst (v := (1 : Int32)) hx hb dX8_keyWith_69 (by decide) ?_
  refine lv_iadd hx hb dX8_keyWith_70 ?_
  obtain ⟨x6, hx6, h⟩ := bd_e h
  try dsimp only at h
  refine k_VvM (n := 1) (As := [.int (p1 + (1 : Int32))]) (rest := []) hx hb hml hown hts (c_X3_add l G cI cJ cD cH H.size h_t_numbers h_t_numbers_keys h_t_numbers_aboves h_t_numbers_rounds t_numbers_round vJ59_0 vJ59_1 vJ59_2 (p1 + (1 : Int32)) (x6.1) (x6.2.1) (x6.2.2) hx6) gX8_keyWith_X3_add rfl rfl rfl (by decide +kernel) ⟨by first | exact Nat.le_of_ble_eq_true rfl | (simp only [headSpec]; omega), by first | exact Nat.le_of_ble_eq_true rfl | (simp only [headSpec]; omega)⟩ hK hP hD hS hA [1] (by decide) rfl rfl (ci := 3) rfl rfl rfl rfl rfl hl.1 (Nat.le_of_ble_eq_true rfl) dX8_keyWith_71 ⟨Nat.zero_le _, Nat.zero_le _⟩ [(h_t, .inr (7, [.ref h_t_desk, .ref h_t_imageDesk, .ref h_t_deeds, .ref h_t_numbers, .ref h_t_tape, .ref h_t_reader, .ref h_t_speller, .ref h_t_holders, .int t_imageKept])), (h_t_numbers, .inr (3, [.ref h_t_numbers_keys, .ref h_t_numbers_aboves, .ref h_t_numbers_rounds, .int t_numbers_round, .int (x6.1), .int (x6.2.1), .long (x6.2.2)])), (h_t_desk, .inr (1, [.int t_desk_genus, .int t_desk_size, .ref h_t_desk_powers, .int t_desk_limit, .long t_desk_tree])), (h_t_desk_powers, .inl (cI, 8, .inl a_t_desk_powers))] [0, 1, 0, 0] 1 (by decide +kernel) rfl rfl rfl (fun hp6 H locs hP hD hS => ?_)
  exact tJ_X8_keyWith_74 hx hb hr hml hts hown hlocks hK hA (x6.1) (x6.2.1) (x6.2.2) _ _ _ hP hD hS (lv_sub hl [0, 2] rfl) h
set_option maxHeartbeats 4000000 in
set_option maxRecDepth 100000 in
theorem tK_X8_keyWith_10_44 {l : Launch} {G : va_G} {cI cJ cD cH : ClassId} {h_t : Nat} {h_t_numbers : Nat} {h_t_desk : Nat} {h_t_desk_powers : Nat} {h_t_imageDesk : Nat} {h_t_deeds : Nat} {h_t_tape : Nat} {h_t_reader : Nat} {h_t_speller : Nat} {h_t_holders : Nat} {h_t_numbers_keys : Nat} {h_t_numbers_aboves : Nat} {h_t_numbers_rounds : Nat} {t_imageKept : Int32} {t_numbers_round : Int32} {t_desk_genus : Int32} {t_desk_size : Int32} {t_desk_limit : Int32} {t_desk_tree : Int64} {a_t_desk_powers : Nat → Int32} {p0 : Int32} {p1 : Int32} {p2 : Int32} {r0 : Int64} {w0 : Int32} {w1 : Int32} {w2 : Int64} {p : Program} {e : Env} {s : State} {m : MethodId} {below : List Frame} {meth : Method} {c : Code} {A : Nat → Prop} (hx : p.tables.exec = Jvm.exec) (hb : c.code = cX8_keyWith) (hr : meth.sig.returnType = (some .long)) (hml : c.maxLocals = 5) (hts : ∀ w ∈ wsX8_keyWith, w.before ([.ref h_t, .int p0, .int p1, .int p2] : List Value).toArray s = true) (hown : s.vm.findClass RX8 = some m.cls) (hlocks : meth.locks = false) (hK : va_K G vwCl (k_T cI cJ cD cH) s) (hA : ∀ q : Nat, s.heap.size ≤ q → A q) : ∀  (vK10_44_0 : Int32) (vK10_44_1 : Int32) (vK10_44_2 : Int64) (H : Heap) (locs : List Loc) (ls : Array Slot), va_P G vwCl [(h_t, .inr (7, [.ref h_t_desk, .ref h_t_imageDesk, .ref h_t_deeds, .ref h_t_numbers, .ref h_t_tape, .ref h_t_reader, .ref h_t_speller, .ref h_t_holders, .int t_imageKept])), (h_t_numbers, .inr (3, [.ref h_t_numbers_keys, .ref h_t_numbers_aboves, .ref h_t_numbers_rounds, .int t_numbers_round, .int vK10_44_0, .int vK10_44_1, .long vK10_44_2])), (h_t_desk, .inr (1, [.int t_desk_genus, .int t_desk_size, .ref h_t_desk_powers, .int t_desk_limit, .long t_desk_tree])), (h_t_desk_powers, .inl (cI, 8, .inl a_t_desk_powers))] H → va_D A [(h_t, .inr (7, [.ref h_t_desk, .ref h_t_imageDesk, .ref h_t_deeds, .ref h_t_numbers, .ref h_t_tape, .ref h_t_reader, .ref h_t_speller, .ref h_t_holders, .int t_imageKept])), (h_t_numbers, .inr (3, [.ref h_t_numbers_keys, .ref h_t_numbers_aboves, .ref h_t_numbers_rounds, .int t_numbers_round, .int vK10_44_0, .int vK10_44_1, .long vK10_44_2])), (h_t_desk, .inr (1, [.int t_desk_genus, .int t_desk_size, .ref h_t_desk_powers, .int t_desk_limit, .long t_desk_tree])), (h_t_desk_powers, .inl (cI, 8, .inl a_t_desk_powers))] → va_S A s.heap H locs → lv_has ls 5 [(0, .ref h_t), (1, .int p0), (2, .int p1), (3, .int p2)] → K_X8_keyWith_10_44 t_desk_genus p0 p1 p2 vK10_44_0 vK10_44_1 vK10_44_2 = some (r0, w0, w1, w2) → W p l e (headSpec wsX8_keyWith ({ frames := 1, cells := 0, slots := 0, locals := 21 })).room s m ([.ref h_t, .int p0, .int p1, .int p2] : List Value).toArray below meth c H locs 0 0 (MQ below (va_Ql (fun r (_ : Unit) => r = r0 ∧ True) (fun _ t => va_P G vwCl [(h_t, .inr (7, [.ref h_t_desk, .ref h_t_imageDesk, .ref h_t_deeds, .ref h_t_numbers, .ref h_t_tape, .ref h_t_reader, .ref h_t_speller, .ref h_t_holders, .int t_imageKept])), (h_t_numbers, .inr (3, [.ref h_t_numbers_keys, .ref h_t_numbers_aboves, .ref h_t_numbers_rounds, .int t_numbers_round, .int w0, .int w1, .long w2])), (h_t_desk, .inr (1, [.int t_desk_genus, .int t_desk_size, .ref h_t_desk_powers, .int t_desk_limit, .long t_desk_tree])), (h_t_desk_powers, .inl (cI, 8, .inl a_t_desk_powers))] t.heap) A) ([.ref h_t, .int p0, .int p1, .int p2] : List Value).toArray s 0 0 A) (F0 m 44 ls []) := by
  have hta : ∀ w ∈ wA, w.before ([.ref h_t, .int p0, .int p1, .int p2] : List Value).toArray s = true := hta_of hts
  have hinX1 : ∀ w ∈ wsX10, w ∈ wsX8_keyWith := hin_of in_X1
  have hinX8 : ∀ w ∈ wsX80, w ∈ wsX8_keyWith := hin_of in_X8
  intro vK10_44_0 vK10_44_1 vK10_44_2 H locs ls hP hD hS hl h
  unfold K_X8_keyWith_10_44 at h
  refine lv_iload_n hx hb dX8_keyWith_44 rfl (lv_at hl 1 rfl) ?_
  refine lv_iconst (v := (-1 : Int32)) hx hb dX8_keyWith_45 (by decide) ?_
  refine lv_icmp_eq (tgt := 59) hx hb dX8_keyWith_46 (by decide) (fun c7 => ?_) (fun c7 => ?_)
  · have h := it_p h c7
    exact tJ_X8_keyWith_59 hx hb hr hml hts hown hlocks hK hA vK10_44_0 vK10_44_1 vK10_44_2 _ _ _ hP hD hS (lv_sub hl [0, 2, 3] rfl) h
  have h := it_n h c7
  refine lv_aload_n hx hb dX8_keyWith_49 rfl (lv_at hl 0 rfl) ?_
  refine va_get (D := G) (ci := 7) (v := .ref h_t_numbers) (C := RX8) (T := TX8) (N := 9) hx hb hts hinX8 hown hK hP 0 rfl rfl 3 (by decide) (hta _ mw_365) (fun _ h9 => h9) rfl dX8_keyWith_50 ?_
  refine lv_iload_n hx hb dX8_keyWith_53 rfl (lv_at hl 1 rfl) ?_
  refine lv_iconst (v := (1 : Int32)) hx hb dX8_keyWith_54 (by decide) ?_
  refine lv_iadd hx hb dX8_keyWith_55 ?_
  obtain ⟨x8, hx8, h⟩ := bd_e h
  try dsimp only at h
  refine k_VvM (n := 1) (As := [.int (p0 + (1 : Int32))]) (rest := []) hx hb hml hown hts (c_X3_add l G cI cJ cD cH H.size h_t_numbers h_t_numbers_keys h_t_numbers_aboves h_t_numbers_rounds t_numbers_round vK10_44_0 vK10_44_1 vK10_44_2 (p0 + (1 : Int32)) (x8.1) (x8.2.1) (x8.2.2) hx8) gX8_keyWith_X3_add rfl rfl rfl (by decide +kernel) ⟨by first | exact Nat.le_of_ble_eq_true rfl | (simp only [headSpec]; omega), by first | exact Nat.le_of_ble_eq_true rfl | (simp only [headSpec]; omega)⟩ hK hP hD hS hA [1] (by decide) rfl rfl (ci := 3) rfl rfl rfl rfl rfl hl.1 (Nat.le_of_ble_eq_true rfl) dX8_keyWith_56 ⟨Nat.zero_le _, Nat.zero_le _⟩ [(h_t, .inr (7, [.ref h_t_desk, .ref h_t_imageDesk, .ref h_t_deeds, .ref h_t_numbers, .ref h_t_tape, .ref h_t_reader, .ref h_t_speller, .ref h_t_holders, .int t_imageKept])), (h_t_numbers, .inr (3, [.ref h_t_numbers_keys, .ref h_t_numbers_aboves, .ref h_t_numbers_rounds, .int t_numbers_round, .int (x8.1), .int (x8.2.1), .long (x8.2.2)])), (h_t_desk, .inr (1, [.int t_desk_genus, .int t_desk_size, .ref h_t_desk_powers, .int t_desk_limit, .long t_desk_tree])), (h_t_desk_powers, .inl (cI, 8, .inl a_t_desk_powers))] [0, 1, 0, 0] 1 (by decide +kernel) rfl rfl rfl (fun hp8 H locs hP hD hS => ?_)
  exact tJ_X8_keyWith_59 hx hb hr hml hts hown hlocks hK hA (x8.1) (x8.2.1) (x8.2.2) _ _ _ hP hD hS (lv_sub hl [0, 2, 3] rfl) h
set_option maxHeartbeats 4000000 in
set_option maxRecDepth 100000 in
theorem c_X8_keyWith (l : Launch) (G : va_G) (cI cJ cD cH : ClassId) (sz : Nat) (h_t : Nat) (h_t_numbers : Nat) (h_t_desk : Nat) (h_t_desk_powers : Nat) (h_t_imageDesk : Nat) (h_t_deeds : Nat) (h_t_tape : Nat) (h_t_reader : Nat) (h_t_speller : Nat) (h_t_holders : Nat) (h_t_numbers_keys : Nat) (h_t_numbers_aboves : Nat) (h_t_numbers_rounds : Nat) (t_imageKept : Int32) (t_numbers_round : Int32) (t_numbers_size : Int32) (t_numbers_sum : Int32) (t_numbers_gathered : Int64) (t_desk_genus : Int32) (t_desk_size : Int32) (t_desk_limit : Int32) (t_desk_tree : Int64) (a_t_desk_powers : Nat → Int32) (p0 : Int32) (p1 : Int32) (p2 : Int32) (r0 : Int64) (w0 : Int32) (w1 : Int32) (w2 : Int64) (hF : F_X8_keyWith t_desk_genus t_desk_size a_t_desk_powers p0 p1 p2 = some (r0, w0, w1, w2)) : Met l yX8_keyWith wsX8_keyWith ({ frames := 1, cells := 0, slots := 0, locals := 21 }) (k_pre G (k_T cI cJ cD cH) [(h_t, .inr (7, [.ref h_t_desk, .ref h_t_imageDesk, .ref h_t_deeds, .ref h_t_numbers, .ref h_t_tape, .ref h_t_reader, .ref h_t_speller, .ref h_t_holders, .int t_imageKept])), (h_t_numbers, .inr (3, [.ref h_t_numbers_keys, .ref h_t_numbers_aboves, .ref h_t_numbers_rounds, .int t_numbers_round, .int t_numbers_size, .int t_numbers_sum, .long t_numbers_gathered])), (h_t_desk, .inr (1, [.int t_desk_genus, .int t_desk_size, .ref h_t_desk_powers, .int t_desk_limit, .long t_desk_tree])), (h_t_desk_powers, .inl (cI, 8, .inl a_t_desk_powers))] sz [.ref h_t, .int p0, .int p1, .int p2]) (va_Ql (fun r (_ : Unit) => r = r0 ∧ True) (fun _ t => va_P G vwCl [(h_t, .inr (7, [.ref h_t_desk, .ref h_t_imageDesk, .ref h_t_deeds, .ref h_t_numbers, .ref h_t_tape, .ref h_t_reader, .ref h_t_speller, .ref h_t_holders, .int t_imageKept])), (h_t_numbers, .inr (3, [.ref h_t_numbers_keys, .ref h_t_numbers_aboves, .ref h_t_numbers_rounds, .int t_numbers_round, .int w0, .int w1, .long w2])), (h_t_desk, .inr (1, [.int t_desk_genus, .int t_desk_size, .ref h_t_desk_powers, .int t_desk_limit, .long t_desk_tree])), (h_t_desk_powers, .inl (cI, 8, .inl a_t_desk_powers))] t.heap) (va_A [(h_t, .inr (7, [.ref h_t_desk, .ref h_t_imageDesk, .ref h_t_deeds, .ref h_t_numbers, .ref h_t_tape, .ref h_t_reader, .ref h_t_speller, .ref h_t_holders, .int t_imageKept])), (h_t_numbers, .inr (3, [.ref h_t_numbers_keys, .ref h_t_numbers_aboves, .ref h_t_numbers_rounds, .int t_numbers_round, .int t_numbers_size, .int t_numbers_sum, .long t_numbers_gathered])), (h_t_desk, .inr (1, [.int t_desk_genus, .int t_desk_size, .ref h_t_desk_powers, .int t_desk_limit, .long t_desk_tree])), (h_t_desk_powers, .inl (cI, 8, .inl a_t_desk_powers))] sz)) 0 0 (va_A [(h_t, .inr (7, [.ref h_t_desk, .ref h_t_imageDesk, .ref h_t_deeds, .ref h_t_numbers, .ref h_t_tape, .ref h_t_reader, .ref h_t_speller, .ref h_t_holders, .int t_imageKept])), (h_t_numbers, .inr (3, [.ref h_t_numbers_keys, .ref h_t_numbers_aboves, .ref h_t_numbers_rounds, .int t_numbers_round, .int t_numbers_size, .int t_numbers_sum, .long t_numbers_gathered])), (h_t_desk, .inr (1, [.int t_desk_genus, .int t_desk_size, .ref h_t_desk_powers, .int t_desk_limit, .long t_desk_tree])), (h_t_desk_powers, .inl (cI, 8, .inl a_t_desk_powers))] sz) := by
  refine Met.ofW (cc := cX8_keyWith) (maxL := 5) (ret := (some .long)) (by decide) rfl ?_
  intro p e s m args below meth c s₁ B hml hv
  obtain ⟨rfl, hsz, hP, hK, hD0⟩ := hv
  have hx := B.exec
  have hb := B.bytes
  have hr := B.returns
  have hts := atoms_spec (ws := wsX8_keyWith) B.pre
  have hta : ∀ w ∈ wA, w.before ([.ref h_t, .int p0, .int p1, .int p2] : List Value).toArray s = true := hta_of hts
  have hown : s.vm.findClass RX8 = some m.cls := findClass_of_methodNamed B.named
  have hlocks := B.notSynchronized
  subst hsz
  have hD := hD0.self (sz := s.heap.size)
  generalize hAe : va_A [(h_t, .inr (7, [.ref h_t_desk, .ref h_t_imageDesk, .ref h_t_deeds, .ref h_t_numbers, .ref h_t_tape, .ref h_t_reader, .ref h_t_speller, .ref h_t_holders, .int t_imageKept])), (h_t_numbers, .inr (3, [.ref h_t_numbers_keys, .ref h_t_numbers_aboves, .ref h_t_numbers_rounds, .int t_numbers_round, .int t_numbers_size, .int t_numbers_sum, .long t_numbers_gathered])), (h_t_desk, .inr (1, [.int t_desk_genus, .int t_desk_size, .ref h_t_desk_powers, .int t_desk_limit, .long t_desk_tree])), (h_t_desk_powers, .inl (cI, 8, .inl a_t_desk_powers))] s.heap.size = A at hD ⊢
  have hA : ∀ q : Nat, s.heap.size ≤ q → A q := fun q h => by rw [← hAe]; exact Or.inr h
  have hS : va_S A s.heap s.heap [] := va_S.rf
  have hl := lv_entry ([.ref h_t, .int p0, .int p1, .int p2]) (n := 5) (Nat.le_of_ble_eq_true rfl)
  rw [lg_entry_eq]
  generalize (lg_sl ([.ref h_t, .int p0, .int p1, .int p2]) ++ List.replicate (5 - (lg_sl ([.ref h_t, .int p0, .int p1, .int p2])).length) Slot.unset).toArray = ls at hl ⊢
  have hl : lv_has ls 5 [(0, .ref h_t), (1, .int p0), (2, .int p1), (3, .int p2)] := hl
  have hinX1 : ∀ w ∈ wsX10, w ∈ wsX8_keyWith := hin_of in_X1
  have hinX8 : ∀ w ∈ wsX80, w ∈ wsX8_keyWith := hin_of in_X8
  have h := hF
  unfold F_X8_keyWith at h
  refine lv_aload_n hx hb dX8_keyWith_0 rfl (lv_at hl 0 rfl) ?_
  refine va_get (D := G) (ci := 7) (v := .ref h_t_numbers) (C := RX8) (T := TX8) (N := 9) hx hb hts hinX8 hown hK hP 0 rfl rfl 3 (by decide) (hta _ mw_365) (fun _ h9 => h9) rfl dX8_keyWith_1 ?_
  obtain ⟨x1, hx1, h⟩ := bd_e h
  try dsimp only at h
  refine k_VvM (n := 0) (As := []) (rest := []) hx hb hml hown hts (c_X3_begin l G cI cJ cD cH s.heap.size h_t_numbers h_t_numbers_keys h_t_numbers_aboves h_t_numbers_rounds t_numbers_round t_numbers_size t_numbers_sum t_numbers_gathered (x1.1) (x1.2.1) (x1.2.2) hx1) gX8_keyWith_X3_begin rfl rfl rfl (by decide +kernel) ⟨by first | exact Nat.le_of_ble_eq_true rfl | (simp only [headSpec]; omega), by first | exact Nat.le_of_ble_eq_true rfl | (simp only [headSpec]; omega)⟩ hK hP hD hS hA [1] (by decide) rfl rfl (ci := 3) rfl rfl rfl rfl rfl hl.1 (Nat.le_of_ble_eq_true rfl) dX8_keyWith_4 ⟨Nat.zero_le _, Nat.zero_le _⟩ [(h_t, .inr (7, [.ref h_t_desk, .ref h_t_imageDesk, .ref h_t_deeds, .ref h_t_numbers, .ref h_t_tape, .ref h_t_reader, .ref h_t_speller, .ref h_t_holders, .int t_imageKept])), (h_t_numbers, .inr (3, [.ref h_t_numbers_keys, .ref h_t_numbers_aboves, .ref h_t_numbers_rounds, .int t_numbers_round, .int (x1.1), .int (x1.2.1), .long (x1.2.2)])), (h_t_desk, .inr (1, [.int t_desk_genus, .int t_desk_size, .ref h_t_desk_powers, .int t_desk_limit, .long t_desk_tree])), (h_t_desk_powers, .inl (cI, 8, .inl a_t_desk_powers))] [0, 1, 0, 0] 1 (by decide +kernel) rfl rfl rfl (fun hp1 H locs hP hD hS => ?_)
  refine lv_iconst (v := (0 : Int32)) hx hb dX8_keyWith_7 (by decide) ?_
  refine lv_istore (lv' := [(4, .int (0 : Int32)), (0, .ref h_t), (1, .int p0), (2, .int p1), (3, .int p2)]) hx hb dX8_keyWith_8 hl (by decide) rfl (fun ls hl => ?_)
  have hL10 : ∀ (n10 : Nat) (vL10_0 : Int32) (vL10_1 : Int32) (vL10_2 : Int64) (vL10_3 : Int32) (H : Heap) (locs : List Loc) (ls : Array Slot), va_P G vwCl [(h_t, .inr (7, [.ref h_t_desk, .ref h_t_imageDesk, .ref h_t_deeds, .ref h_t_numbers, .ref h_t_tape, .ref h_t_reader, .ref h_t_speller, .ref h_t_holders, .int t_imageKept])), (h_t_numbers, .inr (3, [.ref h_t_numbers_keys, .ref h_t_numbers_aboves, .ref h_t_numbers_rounds, .int t_numbers_round, .int vL10_0, .int vL10_1, .long vL10_2])), (h_t_desk, .inr (1, [.int t_desk_genus, .int t_desk_size, .ref h_t_desk_powers, .int t_desk_limit, .long t_desk_tree])), (h_t_desk_powers, .inl (cI, 8, .inl a_t_desk_powers))] H → va_D A [(h_t, .inr (7, [.ref h_t_desk, .ref h_t_imageDesk, .ref h_t_deeds, .ref h_t_numbers, .ref h_t_tape, .ref h_t_reader, .ref h_t_speller, .ref h_t_holders, .int t_imageKept])), (h_t_numbers, .inr (3, [.ref h_t_numbers_keys, .ref h_t_numbers_aboves, .ref h_t_numbers_rounds, .int t_numbers_round, .int vL10_0, .int vL10_1, .long vL10_2])), (h_t_desk, .inr (1, [.int t_desk_genus, .int t_desk_size, .ref h_t_desk_powers, .int t_desk_limit, .long t_desk_tree])), (h_t_desk_powers, .inl (cI, 8, .inl a_t_desk_powers))] → va_S A s.heap H locs → lv_has ls 5 [(0, .ref h_t), (1, .int p0), (2, .int p1), (3, .int p2), (4, .int vL10_3)] → wq4 (B_X8_keyWith_10 t_desk_size a_t_desk_powers (K_X8_keyWith_10_44 t_desk_genus p0 p1 p2)) n10 vL10_0 vL10_1 vL10_2 vL10_3 = some (r0, w0, w1, w2) → W p l e (headSpec wsX8_keyWith ({ frames := 1, cells := 0, slots := 0, locals := 21 })).room s m ([.ref h_t, .int p0, .int p1, .int p2] : List Value).toArray below meth c H locs 0 0 (MQ below (va_Ql (fun r (_ : Unit) => r = r0 ∧ True) (fun _ t => va_P G vwCl [(h_t, .inr (7, [.ref h_t_desk, .ref h_t_imageDesk, .ref h_t_deeds, .ref h_t_numbers, .ref h_t_tape, .ref h_t_reader, .ref h_t_speller, .ref h_t_holders, .int t_imageKept])), (h_t_numbers, .inr (3, [.ref h_t_numbers_keys, .ref h_t_numbers_aboves, .ref h_t_numbers_rounds, .int t_numbers_round, .int w0, .int w1, .long w2])), (h_t_desk, .inr (1, [.int t_desk_genus, .int t_desk_size, .ref h_t_desk_powers, .int t_desk_limit, .long t_desk_tree])), (h_t_desk_powers, .inl (cI, 8, .inl a_t_desk_powers))] t.heap) A) ([.ref h_t, .int p0, .int p1, .int p2] : List Value).toArray s 0 0 A) (F0 m 10 ls []) := by
    intro n10
    induction n10 with
    | zero => intro vL10_0 vL10_1 vL10_2 vL10_3 H locs ls hP hD hS hl h; exact wq4_0 h
    | succ n10 ih10 =>
      intro vL10_0 vL10_1 vL10_2 vL10_3 H locs ls hP hD hS hl h
      have h := wq4_s h
      unfold B_X8_keyWith_10 at h
      refine lv_iload hx hb dX8_keyWith_10 (lv_at hl 4 rfl) ?_
      refine lv_aload_n hx hb dX8_keyWith_12 rfl (lv_at hl 0 rfl) ?_
      refine va_get (D := G) (ci := 7) (v := .ref h_t_desk) (C := RX8) (T := TX8) (N := 9) hx hb hts hinX8 hown hK hP 0 rfl rfl 0 (by decide) (hta _ mw_358) (fun _ h9 => h9) rfl dX8_keyWith_13 ?_
      refine va_get (D := G) (ci := 1) (v := .int t_desk_size) (C := RX1) (T := TX1) (N := 5) hx hb hts hinX1 hown hK hP 2 rfl rfl 1 (by decide) (hta _ mw_394) (fun _ h9 => h9) rfl dX8_keyWith_16 ?_
      refine lv_icmp_ge (tgt := 44) hx hb dX8_keyWith_19 (by decide) (fun c9 => ?_) (fun c9 => ?_)
      · have h := it_p h c9
        exact tK_X8_keyWith_10_44 hx hb hr hml hts hown hlocks hK hA vL10_0 vL10_1 vL10_2 _ _ _ hP hD hS (lv_sub hl [0, 1, 2, 3] rfl) h
      have h := it_n h c9
      refine lv_aload_n hx hb dX8_keyWith_22 rfl (lv_at hl 0 rfl) ?_
      refine va_get (D := G) (ci := 7) (v := .ref h_t_numbers) (C := RX8) (T := TX8) (N := 9) hx hb hts hinX8 hown hK hP 0 rfl rfl 3 (by decide) (hta _ mw_365) (fun _ h9 => h9) rfl dX8_keyWith_23 ?_
      refine lv_aload_n hx hb dX8_keyWith_26 rfl (lv_at hl 0 rfl) ?_
      refine va_get (D := G) (ci := 7) (v := .ref h_t_desk) (C := RX8) (T := TX8) (N := 9) hx hb hts hinX8 hown hK hP 0 rfl rfl 0 (by decide) (hta _ mw_358) (fun _ h9 => h9) rfl dX8_keyWith_27 ?_
      refine lv_iload hx hb dX8_keyWith_30 (lv_at hl 4 rfl) ?_
      obtain ⟨x10, hx10, h⟩ := bd_e h
      try dsimp only at h
      refine k_ViU (n := 1) (As := [.int vL10_3]) (rest := [.ref h_t_numbers]) hx hb hml hown hts (c_X1_powerAt l G cI cJ cD cH H.size h_t_desk h_t_desk_powers t_desk_genus t_desk_size t_desk_limit t_desk_tree a_t_desk_powers vL10_3 x10 hx10) gX8_keyWith_X1_powerAt rfl rfl rfl (by decide +kernel) ⟨by first | exact Nat.le_of_ble_eq_true rfl | (simp only [headSpec]; omega), by first | exact Nat.le_of_ble_eq_true rfl | (simp only [headSpec]; omega)⟩ hK hP hD hS hA [2, 3] (by decide) rfl (ci := 1) rfl rfl rfl rfl rfl hl.1 (Nat.le_of_ble_eq_true rfl) dX8_keyWith_32 ⟨Nat.zero_le _, Nat.zero_le _⟩ (fun hp10 H locs hP hS => ?_)
      obtain ⟨x11, hx11, h⟩ := bd_e h
      try dsimp only at h
      refine k_VvM (n := 1) (As := [.int x10]) (rest := []) hx hb hml hown hts (c_X3_add l G cI cJ cD cH H.size h_t_numbers h_t_numbers_keys h_t_numbers_aboves h_t_numbers_rounds t_numbers_round vL10_0 vL10_1 vL10_2 x10 (x11.1) (x11.2.1) (x11.2.2) hx11) gX8_keyWith_X3_add rfl rfl rfl (by decide +kernel) ⟨by first | exact Nat.le_of_ble_eq_true rfl | (simp only [headSpec]; omega), by first | exact Nat.le_of_ble_eq_true rfl | (simp only [headSpec]; omega)⟩ hK hP hD hS hA [1] (by decide) rfl rfl (ci := 3) rfl rfl rfl rfl rfl hl.1 (Nat.le_of_ble_eq_true rfl) dX8_keyWith_35 ⟨Nat.zero_le _, Nat.zero_le _⟩ [(h_t, .inr (7, [.ref h_t_desk, .ref h_t_imageDesk, .ref h_t_deeds, .ref h_t_numbers, .ref h_t_tape, .ref h_t_reader, .ref h_t_speller, .ref h_t_holders, .int t_imageKept])), (h_t_numbers, .inr (3, [.ref h_t_numbers_keys, .ref h_t_numbers_aboves, .ref h_t_numbers_rounds, .int t_numbers_round, .int (x11.1), .int (x11.2.1), .long (x11.2.2)])), (h_t_desk, .inr (1, [.int t_desk_genus, .int t_desk_size, .ref h_t_desk_powers, .int t_desk_limit, .long t_desk_tree])), (h_t_desk_powers, .inl (cI, 8, .inl a_t_desk_powers))] [0, 1, 0, 0] 1 (by decide +kernel) rfl rfl rfl (fun hp11 H locs hP hD hS => ?_)
      refine lv_iinc (v := (vL10_3 + (1 : Int32))) (lv' := [(4, .int (vL10_3 + (1 : Int32))), (0, .ref h_t), (1, .int p0), (2, .int p1), (3, .int p2)]) hx hb dX8_keyWith_38 hl (k := 4) rfl (by first | rfl | decide) (by decide) rfl (fun ls hl => ?_)
      refine lv_goto (tgt := 10) hx hb dX8_keyWith_41 (by decide) ?_
      exact ih10 (x11.1) (x11.2.1) (x11.2.2) (vL10_3 + (1 : Int32)) _ _ _ hP hD hS (lv_sub hl [1, 2, 3, 4, 0] rfl) h
  exact hL10 FU (x1.1) (x1.2.1) (x1.2.2) (0 : Int32) _ _ _ hP hD hS (lv_sub hl [1, 2, 3, 4, 0] rfl) h

/-! X8_aboveWith -/
set_option maxHeartbeats 4000000 in
set_option maxRecDepth 100000 in
theorem c_X8_aboveWith (l : Launch) (G : va_G) (cI cJ cD cH : ClassId) (sz : Nat) (h_t : Nat) (h_t_numbers : Nat) (h_t_desk : Nat) (h_t_desk_powers : Nat) (h_t_numbers_keys : Nat) (h_t_numbers_aboves : Nat) (h_t_imageDesk : Nat) (h_t_deeds : Nat) (h_t_tape : Nat) (h_t_reader : Nat) (h_t_speller : Nat) (h_t_holders : Nat) (h_t_numbers_rounds : Nat) (t_imageKept : Int32) (t_numbers_round : Int32) (t_numbers_size : Int32) (t_numbers_sum : Int32) (t_numbers_gathered : Int64) (t_desk_genus : Int32) (t_desk_size : Int32) (t_desk_limit : Int32) (t_desk_tree : Int64) (a_t_desk_powers : Nat → Int32) (a_t_numbers_keys : Nat → Int64) (a_t_numbers_aboves : Nat → Int64) (p0 : Int32) (p1 : Int32) (p2 : Int32) (r0 : Int64) (w0 : Nat → Int64) (w1 : Nat → Int64) (w2 : Int32) (w3 : Int32) (w4 : Int64) (hF : F_X8_aboveWith t_desk_genus t_desk_size a_t_desk_powers a_t_numbers_keys a_t_numbers_aboves p0 p1 p2 = some (r0, w0, w1, w2, w3, w4)) : Met l yX8_aboveWith wsX8_aboveWith ({ frames := 24, cells := 0, slots := 0, locals := 701 }) (k_pre G (k_T cI cJ cD cH) [(h_t, .inr (7, [.ref h_t_desk, .ref h_t_imageDesk, .ref h_t_deeds, .ref h_t_numbers, .ref h_t_tape, .ref h_t_reader, .ref h_t_speller, .ref h_t_holders, .int t_imageKept])), (h_t_numbers, .inr (3, [.ref h_t_numbers_keys, .ref h_t_numbers_aboves, .ref h_t_numbers_rounds, .int t_numbers_round, .int t_numbers_size, .int t_numbers_sum, .long t_numbers_gathered])), (h_t_desk, .inr (1, [.int t_desk_genus, .int t_desk_size, .ref h_t_desk_powers, .int t_desk_limit, .long t_desk_tree])), (h_t_desk_powers, .inl (cI, 8, .inl a_t_desk_powers)), (h_t_numbers_keys, .inl (cJ, 1024, .inr (.inl a_t_numbers_keys))), (h_t_numbers_aboves, .inl (cJ, 1024, .inr (.inl a_t_numbers_aboves)))] sz [.ref h_t, .int p0, .int p1, .int p2]) (va_Ql (fun r (_ : Unit) => r = r0 ∧ True) (fun _ t => va_P G vwCl [(h_t, .inr (7, [.ref h_t_desk, .ref h_t_imageDesk, .ref h_t_deeds, .ref h_t_numbers, .ref h_t_tape, .ref h_t_reader, .ref h_t_speller, .ref h_t_holders, .int t_imageKept])), (h_t_numbers, .inr (3, [.ref h_t_numbers_keys, .ref h_t_numbers_aboves, .ref h_t_numbers_rounds, .int t_numbers_round, .int w2, .int w3, .long w4])), (h_t_desk, .inr (1, [.int t_desk_genus, .int t_desk_size, .ref h_t_desk_powers, .int t_desk_limit, .long t_desk_tree])), (h_t_desk_powers, .inl (cI, 8, .inl a_t_desk_powers)), (h_t_numbers_keys, .inl (cJ, 1024, .inr (.inl w0))), (h_t_numbers_aboves, .inl (cJ, 1024, .inr (.inl w1)))] t.heap) (va_A [(h_t, .inr (7, [.ref h_t_desk, .ref h_t_imageDesk, .ref h_t_deeds, .ref h_t_numbers, .ref h_t_tape, .ref h_t_reader, .ref h_t_speller, .ref h_t_holders, .int t_imageKept])), (h_t_numbers, .inr (3, [.ref h_t_numbers_keys, .ref h_t_numbers_aboves, .ref h_t_numbers_rounds, .int t_numbers_round, .int t_numbers_size, .int t_numbers_sum, .long t_numbers_gathered])), (h_t_desk, .inr (1, [.int t_desk_genus, .int t_desk_size, .ref h_t_desk_powers, .int t_desk_limit, .long t_desk_tree])), (h_t_desk_powers, .inl (cI, 8, .inl a_t_desk_powers)), (h_t_numbers_keys, .inl (cJ, 1024, .inr (.inl a_t_numbers_keys))), (h_t_numbers_aboves, .inl (cJ, 1024, .inr (.inl a_t_numbers_aboves)))] sz)) 0 0 (va_A [(h_t, .inr (7, [.ref h_t_desk, .ref h_t_imageDesk, .ref h_t_deeds, .ref h_t_numbers, .ref h_t_tape, .ref h_t_reader, .ref h_t_speller, .ref h_t_holders, .int t_imageKept])), (h_t_numbers, .inr (3, [.ref h_t_numbers_keys, .ref h_t_numbers_aboves, .ref h_t_numbers_rounds, .int t_numbers_round, .int t_numbers_size, .int t_numbers_sum, .long t_numbers_gathered])), (h_t_desk, .inr (1, [.int t_desk_genus, .int t_desk_size, .ref h_t_desk_powers, .int t_desk_limit, .long t_desk_tree])), (h_t_desk_powers, .inl (cI, 8, .inl a_t_desk_powers)), (h_t_numbers_keys, .inl (cJ, 1024, .inr (.inl a_t_numbers_keys))), (h_t_numbers_aboves, .inl (cJ, 1024, .inr (.inl a_t_numbers_aboves)))] sz) := by
  refine Met.ofW (cc := cX8_aboveWith) (maxL := 4) (ret := (some .long)) (by decide) rfl ?_
  intro p e s m args below meth c s₁ B hml hv
  obtain ⟨rfl, hsz, hP, hK, hD0⟩ := hv
  have hx := B.exec
  have hb := B.bytes
  have hr := B.returns
  have hts := atoms_spec (ws := wsX8_aboveWith) B.pre
  have hta : ∀ w ∈ wA, w.before ([.ref h_t, .int p0, .int p1, .int p2] : List Value).toArray s = true := hta_of hts
  have hown : s.vm.findClass RX8 = some m.cls := findClass_of_methodNamed B.named
  have hlocks := B.notSynchronized
  subst hsz
  have hD := hD0.self (sz := s.heap.size)
  generalize hAe : va_A [(h_t, .inr (7, [.ref h_t_desk, .ref h_t_imageDesk, .ref h_t_deeds, .ref h_t_numbers, .ref h_t_tape, .ref h_t_reader, .ref h_t_speller, .ref h_t_holders, .int t_imageKept])), (h_t_numbers, .inr (3, [.ref h_t_numbers_keys, .ref h_t_numbers_aboves, .ref h_t_numbers_rounds, .int t_numbers_round, .int t_numbers_size, .int t_numbers_sum, .long t_numbers_gathered])), (h_t_desk, .inr (1, [.int t_desk_genus, .int t_desk_size, .ref h_t_desk_powers, .int t_desk_limit, .long t_desk_tree])), (h_t_desk_powers, .inl (cI, 8, .inl a_t_desk_powers)), (h_t_numbers_keys, .inl (cJ, 1024, .inr (.inl a_t_numbers_keys))), (h_t_numbers_aboves, .inl (cJ, 1024, .inr (.inl a_t_numbers_aboves)))] s.heap.size = A at hD ⊢
  have hA : ∀ q : Nat, s.heap.size ≤ q → A q := fun q h => by rw [← hAe]; exact Or.inr h
  have hS : va_S A s.heap s.heap [] := va_S.rf
  have hl := lv_entry ([.ref h_t, .int p0, .int p1, .int p2]) (n := 4) (Nat.le_of_ble_eq_true rfl)
  rw [lg_entry_eq]
  generalize (lg_sl ([.ref h_t, .int p0, .int p1, .int p2]) ++ List.replicate (4 - (lg_sl ([.ref h_t, .int p0, .int p1, .int p2])).length) Slot.unset).toArray = ls at hl ⊢
  have hl : lv_has ls 4 [(0, .ref h_t), (1, .int p0), (2, .int p1), (3, .int p2)] := hl
  have hinX8 : ∀ w ∈ wsX80, w ∈ wsX8_aboveWith := hin_of in_X8
  have h := hF
  unfold F_X8_aboveWith at h
  refine lv_aload_n hx hb dX8_aboveWith_0 rfl (lv_at hl 0 rfl) ?_
  refine va_get (D := G) (ci := 7) (v := .ref h_t_numbers) (C := RX8) (T := TX8) (N := 9) hx hb hts hinX8 hown hK hP 0 rfl rfl 3 (by decide) (hta _ mw_365) (fun _ h9 => h9) rfl dX8_aboveWith_1 ?_
  refine lv_aload_n hx hb dX8_aboveWith_4 rfl (lv_at hl 0 rfl) ?_
  refine lv_iload_n hx hb dX8_aboveWith_5 rfl (lv_at hl 1 rfl) ?_
  refine lv_iload_n hx hb dX8_aboveWith_6 rfl (lv_at hl 2 rfl) ?_
  refine lv_iload_n hx hb dX8_aboveWith_7 rfl (lv_at hl 3 rfl) ?_
  obtain ⟨x1, hx1, h⟩ := bd_e h
  try dsimp only at h
  refine k_VlM (n := 3) (As := [.int p0, .int p1, .int p2]) (rest := [.ref h_t_numbers]) hx hb hml hown hts (c_X8_keyWith l G cI cJ cD cH s.heap.size h_t h_t_numbers h_t_desk h_t_desk_powers h_t_imageDesk h_t_deeds h_t_tape h_t_reader h_t_speller h_t_holders h_t_numbers_keys h_t_numbers_aboves h_t_numbers_rounds t_imageKept t_numbers_round t_numbers_size t_numbers_sum t_numbers_gathered t_desk_genus t_desk_size t_desk_limit t_desk_tree a_t_desk_powers p0 p1 p2 (x1.1) (x1.2.1) (x1.2.2.1) (x1.2.2.2) hx1) gX8_aboveWith_X8_keyWith rfl rfl rfl (by decide +kernel) ⟨by first | exact Nat.le_of_ble_eq_true rfl | (simp only [headSpec]; omega), by first | exact Nat.le_of_ble_eq_true rfl | (simp only [headSpec]; omega)⟩ hK hP hD hS hA [0, 1, 2, 3] (by decide) rfl rfl (ci := 7) rfl rfl rfl rfl rfl hl.1 (Nat.le_of_ble_eq_true rfl) dX8_aboveWith_8 ⟨Nat.zero_le _, Nat.zero_le _⟩ [(h_t, .inr (7, [.ref h_t_desk, .ref h_t_imageDesk, .ref h_t_deeds, .ref h_t_numbers, .ref h_t_tape, .ref h_t_reader, .ref h_t_speller, .ref h_t_holders, .int t_imageKept])), (h_t_numbers, .inr (3, [.ref h_t_numbers_keys, .ref h_t_numbers_aboves, .ref h_t_numbers_rounds, .int t_numbers_round, .int (x1.2.1), .int (x1.2.2.1), .long (x1.2.2.2)])), (h_t_desk, .inr (1, [.int t_desk_genus, .int t_desk_size, .ref h_t_desk_powers, .int t_desk_limit, .long t_desk_tree])), (h_t_desk_powers, .inl (cI, 8, .inl a_t_desk_powers)), (h_t_numbers_keys, .inl (cJ, 1024, .inr (.inl a_t_numbers_keys))), (h_t_numbers_aboves, .inl (cJ, 1024, .inr (.inl a_t_numbers_aboves)))] [1, 2, 3, 4, 0, 0] 4 (by decide +kernel) rfl rfl rfl (fun hp1 H locs hP hD hS => ?_)
  obtain ⟨x2, hx2, h⟩ := bd_e h
  try dsimp only at h
  refine k_VlM (n := 1) (As := [.long (x1.1)]) (rest := []) hx hb hml hown hts (c_X3_aboveOf l G cI cJ cD cH H.size h_t_numbers h_t_numbers_keys h_t_numbers_aboves h_t_numbers_rounds t_numbers_round (x1.2.1) (x1.2.2.1) (x1.2.2.2) a_t_numbers_keys a_t_numbers_aboves (x1.1) (x2.1) (x2.2.1) (x2.2.2) hx2) gX8_aboveWith_X3_aboveOf rfl rfl rfl (by decide +kernel) ⟨by first | exact Nat.le_of_ble_eq_true rfl | (simp only [headSpec]; omega), by first | exact Nat.le_of_ble_eq_true rfl | (simp only [headSpec]; omega)⟩ hK hP hD hS hA [1, 4, 5] (by decide) rfl rfl (ci := 3) rfl rfl rfl rfl rfl hl.1 (Nat.le_of_ble_eq_true rfl) dX8_aboveWith_11 ⟨Nat.zero_le _, Nat.zero_le _⟩ [(h_t, .inr (7, [.ref h_t_desk, .ref h_t_imageDesk, .ref h_t_deeds, .ref h_t_numbers, .ref h_t_tape, .ref h_t_reader, .ref h_t_speller, .ref h_t_holders, .int t_imageKept])), (h_t_numbers, .inr (3, [.ref h_t_numbers_keys, .ref h_t_numbers_aboves, .ref h_t_numbers_rounds, .int t_numbers_round, .int (x1.2.1), .int (x1.2.2.1), .long (x1.2.2.2)])), (h_t_desk, .inr (1, [.int t_desk_genus, .int t_desk_size, .ref h_t_desk_powers, .int t_desk_limit, .long t_desk_tree])), (h_t_desk_powers, .inl (cI, 8, .inl a_t_desk_powers)), (h_t_numbers_keys, .inl (cJ, 1024, .inr (.inl (x2.2.1)))), (h_t_numbers_aboves, .inl (cJ, 1024, .inr (.inl (x2.2.2))))] [0, 1, 0, 0, 2, 3] 3 (by decide +kernel) rfl rfl rfl (fun hp2 H locs hP hD hS => ?_)
  have h9 := Option.some.inj h
  have e9 : (x2.1) = r0 := congrArg (fun z9 => z9.1) h9
  rw [← e9]
  have e9 : (x2.2.1) = w0 := congrArg (fun z9 => z9.2.1) h9
  rw [← e9]
  have e9 : (x2.2.2) = w1 := congrArg (fun z9 => z9.2.2.1) h9
  rw [← e9]
  have e9 : (x1.2.1) = w2 := congrArg (fun z9 => z9.2.2.2.1) h9
  rw [← e9]
  have e9 : (x1.2.2.1) = w3 := congrArg (fun z9 => z9.2.2.2.2.1) h9
  rw [← e9]
  have e9 : (x1.2.2.2) = w4 := congrArg (fun z9 => z9.2.2.2.2.2) h9
  rw [← e9]
  exact k_lret hx hb hr hlocks hP hS rfl dX8_aboveWith_14

/-! X8_greatestDivisor -/
set_option maxHeartbeats 4000000 in
set_option maxRecDepth 100000 in
theorem c_X8_greatestDivisor (l : Launch) (G : va_G) (cI cJ cD cH : ClassId) (sz : Nat) (p0 : Int64) (p1 : Int64) (r0 : Int64) (hF : F_X8_greatestDivisor p0 p1 = some r0) : Met l yX8_greatestDivisor wsX8_greatestDivisor ({ frames := 0, cells := 0, slots := 0, locals := 0 }) (k_pre G (k_T cI cJ cD cH) [] sz [.long p0, .long p1]) (va_Ql (fun r (_ : Unit) => r = r0 ∧ True) (fun _ t => va_P G vwCl [] t.heap) (va_A [] sz)) 0 0 (va_A [] sz) := by
  refine Met.ofW (cc := cX8_greatestDivisor) (maxL := 11) (ret := (some .long)) (by decide) rfl ?_
  intro p e s m args below meth c s₁ B hml hv
  obtain ⟨rfl, hsz, hP, hK, hD0⟩ := hv
  have hx := B.exec
  have hb := B.bytes
  have hr := B.returns
  have hts := atoms_spec (ws := wsX8_greatestDivisor) B.pre
  have hta : ∀ w ∈ wA, w.before ([.long p0, .long p1] : List Value).toArray s = true := hta_of hts
  have hown : s.vm.findClass RX8 = some m.cls := findClass_of_methodNamed B.named
  have hlocks := B.notSynchronized
  subst hsz
  have hD := hD0.self (sz := s.heap.size)
  generalize hAe : va_A [] s.heap.size = A at hD ⊢
  have hA : ∀ q : Nat, s.heap.size ≤ q → A q := fun q h => by rw [← hAe]; exact Or.inr h
  have hS : va_S A s.heap s.heap [] := va_S.rf
  have hl := lv_entry ([.long p0, .long p1]) (n := 11) (Nat.le_of_ble_eq_true rfl)
  rw [lg_entry_eq]
  generalize (lg_sl ([.long p0, .long p1]) ++ List.replicate (11 - (lg_sl ([.long p0, .long p1])).length) Slot.unset).toArray = ls at hl ⊢
  have hl : lv_has ls 11 [(0, .long p0), (2, .long p1)] := hl
  have h := hF
  unfold F_X8_greatestDivisor at h
  refine lv_lload_n hx hb dX8_greatestDivisor_0 rfl (lv_at hl 0 rfl) ?_
  refine lv_lstore (lv' := [(4, .long p0), (0, .long p0), (2, .long p1)]) hx hb dX8_greatestDivisor_1 hl (by decide) rfl (fun ls hl => ?_)
  refine lv_lload_n hx hb dX8_greatestDivisor_3 rfl (lv_at hl 2 rfl) ?_
  refine lv_lstore (lv' := [(6, .long p1), (4, .long p0), (0, .long p0), (2, .long p1)]) hx hb dX8_greatestDivisor_4 hl (by decide) rfl (fun ls hl => ?_)
  refine lv_iconst (v := (0 : Int32)) hx hb dX8_greatestDivisor_6 (by decide) ?_
  refine lv_istore (lv' := [(8, .int (0 : Int32)), (6, .long p1), (4, .long p0), (0, .long p0), (2, .long p1)]) hx hb dX8_greatestDivisor_7 hl (by decide) rfl (fun ls hl => ?_)
  have hK_X8_greatestDivisor_9_45 : ∀  (vK9_45_0 : Int64) (H : Heap) (locs : List Loc) (ls : Array Slot), va_P G vwCl [] H → va_D A [] → va_S A s.heap H locs → lv_has ls 11 [(4, .long vK9_45_0)] → K_X8_greatestDivisor_9_45 vK9_45_0 = some r0 → W p l e (headSpec wsX8_greatestDivisor ({ frames := 0, cells := 0, slots := 0, locals := 0 })).room s m ([.long p0, .long p1] : List Value).toArray below meth c H locs 0 0 (MQ below (va_Ql (fun r (_ : Unit) => r = r0 ∧ True) (fun _ t => va_P G vwCl [] t.heap) A) ([.long p0, .long p1] : List Value).toArray s 0 0 A) (F0 m 45 ls []) := by
    intro vK9_45_0 H locs ls hP hD hS hl h
    unfold K_X8_greatestDivisor_9_45 at h
    refine lv_lload hx hb dX8_greatestDivisor_45 (lv_at hl 0 rfl) ?_
    have h9 := Option.some.inj h
    have e9 : vK9_45_0 = r0 := congrArg (fun z9 => z9) h9
    rw [← e9]
    exact k_lret hx hb hr hlocks hP hS rfl dX8_greatestDivisor_47
  have hL9 : ∀ (n9 : Nat) (vL9_0 : Int64) (vL9_1 : Int64) (vL9_2 : Int32) (H : Heap) (locs : List Loc) (ls : Array Slot), va_P G vwCl [] H → va_D A [] → va_S A s.heap H locs → lv_has ls 11 [(4, .long vL9_0), (6, .long vL9_1), (8, .int vL9_2)] → wq3 (B_X8_greatestDivisor_9 K_X8_greatestDivisor_9_45) n9 vL9_0 vL9_1 vL9_2 = some r0 → W p l e (headSpec wsX8_greatestDivisor ({ frames := 0, cells := 0, slots := 0, locals := 0 })).room s m ([.long p0, .long p1] : List Value).toArray below meth c H locs 0 0 (MQ below (va_Ql (fun r (_ : Unit) => r = r0 ∧ True) (fun _ t => va_P G vwCl [] t.heap) A) ([.long p0, .long p1] : List Value).toArray s 0 0 A) (F0 m 9 ls []) := by
    intro n9
    induction n9 with
    | zero => intro vL9_0 vL9_1 vL9_2 H locs ls hP hD hS hl h; exact wq3_0 h
    | succ n9 ih9 =>
      intro vL9_0 vL9_1 vL9_2 H locs ls hP hD hS hl h
      have h := wq3_s h
      unfold B_X8_greatestDivisor_9 at h
      refine lv_iload hx hb dX8_greatestDivisor_9 (lv_at hl 2 rfl) ?_
      refine lv_sipush (v := (200 : Int32)) hx hb dX8_greatestDivisor_11 (by decide) ?_
      refine lv_icmp_ge (tgt := 45) hx hb dX8_greatestDivisor_14 (by decide) (fun c1 => ?_) (fun c1 => ?_)
      · have h := it_p h c1
        exact hK_X8_greatestDivisor_9_45 vL9_0 _ _ _ hP hD hS (lv_sub hl [0] rfl) h
      have h := it_n h c1
      refine lv_lload hx hb dX8_greatestDivisor_17 (lv_at hl 1 rfl) ?_
      refine lv_lconst (v := (0 : Int64)) hx hb dX8_greatestDivisor_19 (by decide) ?_
      refine W.lcmp hx hb dX8_greatestDivisor_20 ?_
      refine lv_if_eq (tgt := 45) hx hb dX8_greatestDivisor_21 (by decide) (fun c2 => ?_) (fun c2 => ?_)
      · have h := it_p h c2
        exact hK_X8_greatestDivisor_9_45 vL9_0 _ _ _ hP hD hS (lv_sub hl [0] rfl) h
      have h := it_n h c2
      refine lv_lload hx hb dX8_greatestDivisor_24 (lv_at hl 0 rfl) ?_
      refine lv_lload hx hb dX8_greatestDivisor_26 (lv_at hl 1 rfl) ?_
      obtain ⟨hz3, h⟩ := dvl_e h
      refine lv_lrem hx hb dX8_greatestDivisor_28 hz3 ?_
      refine lv_lstore (lv' := [(9, .long (vL9_0 - vL9_0 / vL9_1 * vL9_1)), (4, .long vL9_0), (6, .long vL9_1), (8, .int vL9_2)]) hx hb dX8_greatestDivisor_29 hl (by decide) rfl (fun ls hl => ?_)
      refine lv_lload hx hb dX8_greatestDivisor_31 (lv_at hl 2 rfl) ?_
      refine lv_lstore (lv' := [(4, .long vL9_1), (9, .long (vL9_0 - vL9_0 / vL9_1 * vL9_1)), (6, .long vL9_1), (8, .int vL9_2)]) hx hb dX8_greatestDivisor_33 hl (by decide) rfl (fun ls hl => ?_)
      refine lv_lload hx hb dX8_greatestDivisor_35 (lv_at hl 1 rfl) ?_
      refine lv_lstore (lv' := [(6, .long (vL9_0 - vL9_0 / vL9_1 * vL9_1)), (4, .long vL9_1), (9, .long (vL9_0 - vL9_0 / vL9_1 * vL9_1)), (8, .int vL9_2)]) hx hb dX8_greatestDivisor_37 hl (by decide) rfl (fun ls hl => ?_)
      refine lv_iinc (v := (vL9_2 + (1 : Int32))) (lv' := [(8, .int (vL9_2 + (1 : Int32))), (6, .long (vL9_0 - vL9_0 / vL9_1 * vL9_1)), (4, .long vL9_1), (9, .long (vL9_0 - vL9_0 / vL9_1 * vL9_1))]) hx hb dX8_greatestDivisor_39 hl (k := 3) rfl (by first | rfl | decide) (by decide) rfl (fun ls hl => ?_)
      refine lv_goto (tgt := 9) hx hb dX8_greatestDivisor_42 (by decide) ?_
      exact ih9 vL9_1 (vL9_0 - vL9_0 / vL9_1 * vL9_1) (vL9_2 + (1 : Int32)) _ _ _ hP hD hS (lv_sub hl [2, 1, 0] rfl) h
  exact hL9 FU p0 p1 (0 : Int32) _ _ _ hP hD hS (lv_sub hl [2, 1, 0] rfl) h

/-! X8_partOf -/
set_option maxHeartbeats 4000000 in
set_option maxRecDepth 100000 in
theorem c_X8_partOf (l : Launch) (G : va_G) (cI cJ cD cH : ClassId) (sz : Nat) (p0 : Int64) (p1 : Int64) (p2 : Int32) (r0 : Int64) (hF : F_X8_partOf p0 p1 p2 = some r0) : Met l yX8_partOf wsX8_partOf ({ frames := 1, cells := 0, slots := 0, locals := 30 }) (k_pre G (k_T cI cJ cD cH) [] sz [.long p0, .long p1, .int p2]) (va_Ql (fun r (_ : Unit) => r = r0 ∧ True) (fun _ t => va_P G vwCl [] t.heap) (va_A [] sz)) 0 0 (va_A [] sz) := by
  refine Met.ofW (cc := cX8_partOf) (maxL := 7) (ret := (some .long)) (by decide) rfl ?_
  intro p e s m args below meth c s₁ B hml hv
  obtain ⟨rfl, hsz, hP, hK, hD0⟩ := hv
  have hx := B.exec
  have hb := B.bytes
  have hr := B.returns
  have hts := atoms_spec (ws := wsX8_partOf) B.pre
  have hta : ∀ w ∈ wA, w.before ([.long p0, .long p1, .int p2] : List Value).toArray s = true := hta_of hts
  have hown : s.vm.findClass RX8 = some m.cls := findClass_of_methodNamed B.named
  have hlocks := B.notSynchronized
  subst hsz
  have hD := hD0.self (sz := s.heap.size)
  generalize hAe : va_A [] s.heap.size = A at hD ⊢
  have hA : ∀ q : Nat, s.heap.size ≤ q → A q := fun q h => by rw [← hAe]; exact Or.inr h
  have hS : va_S A s.heap s.heap [] := va_S.rf
  have hl := lv_entry ([.long p0, .long p1, .int p2]) (n := 7) (Nat.le_of_ble_eq_true rfl)
  rw [lg_entry_eq]
  generalize (lg_sl ([.long p0, .long p1, .int p2]) ++ List.replicate (7 - (lg_sl ([.long p0, .long p1, .int p2])).length) Slot.unset).toArray = ls at hl ⊢
  have hl : lv_has ls 7 [(0, .long p0), (2, .long p1), (4, .int p2)] := hl
  have h := hF
  unfold F_X8_partOf at h
  refine lv_lload_n hx hb dX8_partOf_0 rfl (lv_at hl 0 rfl) ?_
  refine va_mabs_long hx hb (hml.trans hl.1.symm) hown (hta _ mw_453) (hta _ mw_454) (hta _ mw_103) (hta _ mw_455) (by decide) (by decide) (Nat.zero_le _) (Nat.zero_le _) dX8_partOf_1 ?_
  refine lv_lload_n hx hb dX8_partOf_4 rfl (lv_at hl 1 rfl) ?_
  obtain ⟨x1, hx1, h⟩ := bd_e h
  try dsimp only at h
  refine k_SlU (n := 2) (As := [.long (if 0 < p0 then p0 else -p0), .long p1]) (rest := []) hx hb hml hown hts (c_X8_greatestDivisor l G cI cJ cD cH s.heap.size (if 0 < p0 then p0 else -p0) p1 x1 hx1) gX8_partOf_X8_greatestDivisor rfl rfl rfl (by decide +kernel) ⟨by first | exact Nat.le_of_ble_eq_true rfl | (simp only [headSpec]; omega), by first | exact Nat.le_of_ble_eq_true rfl | (simp only [headSpec]; omega)⟩ hK hP hD hS hA [] (by decide) rfl rfl rfl hl.1 (Nat.le_of_ble_eq_true rfl) dX8_partOf_5 ⟨Nat.zero_le _, Nat.zero_le _⟩ (fun hp1 H locs hP hS => ?_)
  refine lv_lstore (lv' := [(5, .long x1), (0, .long p0), (2, .long p1), (4, .int p2)]) hx hb dX8_partOf_8 hl (by decide) rfl (fun ls hl => ?_)
  refine lv_lload hx hb dX8_partOf_10 (lv_at hl 0 rfl) ?_
  refine lv_lconst (v := (0 : Int64)) hx hb dX8_partOf_12 (by decide) ?_
  refine W.lcmp hx hb dX8_partOf_13 ?_
  refine lv_if_gt (tgt := 21) hx hb dX8_partOf_14 (by decide) (fun c2 => ?_) (fun c2 => ?_)
  rotate_left
  · have h := it_n h c2
    refine lv_ldc2 (v := (-9223372036854775808 : Int64)) hx hb hown (hta _ mw_424) dX8_partOf_17 ?_
    have h9 := Option.some.inj h
    have e9 : (-9223372036854775808 : Int64) = r0 := congrArg (fun z9 => z9) h9
    rw [← e9]
    exact k_lret hx hb hr hlocks hP hS rfl dX8_partOf_20
  have h := it_p h c2
  refine lv_iload hx hb dX8_partOf_21 (lv_at hl 3 rfl) ?_
  refine lv_if_ne (tgt := 33) hx hb dX8_partOf_23 (by decide) (fun c3 => ?_) (fun c3 => ?_)
  · have h := it_n h c3
    refine lv_lload_n hx hb dX8_partOf_33 rfl (lv_at hl 2 rfl) ?_
    refine lv_lload hx hb dX8_partOf_34 (lv_at hl 0 rfl) ?_
    obtain ⟨hz4, h⟩ := dvl_e h
    refine lv_ldiv hx hb dX8_partOf_36 hz4 ?_
    have h9 := Option.some.inj h
    have e9 : (p1 / x1) = r0 := congrArg (fun z9 => z9) h9
    rw [← e9]
    exact k_lret hx hb hr hlocks hP hS rfl dX8_partOf_37
  have h := it_p h c3
  refine lv_lload_n hx hb dX8_partOf_26 rfl (lv_at hl 1 rfl) ?_
  refine lv_lload hx hb dX8_partOf_27 (lv_at hl 0 rfl) ?_
  obtain ⟨hz5, h⟩ := dvl_e h
  refine lv_ldiv hx hb dX8_partOf_29 hz5 ?_
  refine lv_goto (tgt := 37) hx hb dX8_partOf_30 (by decide) ?_
  have h9 := Option.some.inj h
  have e9 : (p0 / x1) = r0 := congrArg (fun z9 => z9) h9
  rw [← e9]
  exact k_lret hx hb hr hlocks hP hS rfl dX8_partOf_37

/-! X8_number -/
set_option maxHeartbeats 4000000 in
set_option maxRecDepth 100000 in
theorem c_X8_number (l : Launch) (G : va_G) (cI cJ cD cH : ClassId) (sz : Nat) (h_t : Nat) (h_t_numbers : Nat) (h_t_desk : Nat) (h_t_desk_powers : Nat) (h_t_numbers_keys : Nat) (h_t_numbers_aboves : Nat) (h_t_imageDesk : Nat) (h_t_deeds : Nat) (h_t_tape : Nat) (h_t_reader : Nat) (h_t_speller : Nat) (h_t_holders : Nat) (h_t_numbers_rounds : Nat) (t_imageKept : Int32) (t_numbers_round : Int32) (t_numbers_size : Int32) (t_numbers_sum : Int32) (t_numbers_gathered : Int64) (t_desk_genus : Int32) (t_desk_size : Int32) (t_desk_limit : Int32) (t_desk_tree : Int64) (a_t_desk_powers : Nat → Int32) (a_t_numbers_keys : Nat → Int64) (a_t_numbers_aboves : Nat → Int64) (p0 : Int32) (r0 : Int64) (w0 : Nat → Int64) (w1 : Nat → Int64) (w2 : Int32) (w3 : Int32) (w4 : Int64) (hF : F_X8_number t_numbers_size t_numbers_sum t_numbers_gathered t_desk_genus t_desk_size a_t_desk_powers a_t_numbers_keys a_t_numbers_aboves p0 = some (r0, w0, w1, w2, w3, w4)) : Met l yX8_number wsX8_number ({ frames := 25, cells := 0, slots := 0, locals := 724 }) (k_pre G (k_T cI cJ cD cH) [(h_t, .inr (7, [.ref h_t_desk, .ref h_t_imageDesk, .ref h_t_deeds, .ref h_t_numbers, .ref h_t_tape, .ref h_t_reader, .ref h_t_speller, .ref h_t_holders, .int t_imageKept])), (h_t_numbers, .inr (3, [.ref h_t_numbers_keys, .ref h_t_numbers_aboves, .ref h_t_numbers_rounds, .int t_numbers_round, .int t_numbers_size, .int t_numbers_sum, .long t_numbers_gathered])), (h_t_desk, .inr (1, [.int t_desk_genus, .int t_desk_size, .ref h_t_desk_powers, .int t_desk_limit, .long t_desk_tree])), (h_t_desk_powers, .inl (cI, 8, .inl a_t_desk_powers)), (h_t_numbers_keys, .inl (cJ, 1024, .inr (.inl a_t_numbers_keys))), (h_t_numbers_aboves, .inl (cJ, 1024, .inr (.inl a_t_numbers_aboves)))] sz [.ref h_t, .int p0]) (va_Ql (fun r (_ : Unit) => r = r0 ∧ True) (fun _ t => va_P G vwCl [(h_t, .inr (7, [.ref h_t_desk, .ref h_t_imageDesk, .ref h_t_deeds, .ref h_t_numbers, .ref h_t_tape, .ref h_t_reader, .ref h_t_speller, .ref h_t_holders, .int t_imageKept])), (h_t_numbers, .inr (3, [.ref h_t_numbers_keys, .ref h_t_numbers_aboves, .ref h_t_numbers_rounds, .int t_numbers_round, .int w2, .int w3, .long w4])), (h_t_desk, .inr (1, [.int t_desk_genus, .int t_desk_size, .ref h_t_desk_powers, .int t_desk_limit, .long t_desk_tree])), (h_t_desk_powers, .inl (cI, 8, .inl a_t_desk_powers)), (h_t_numbers_keys, .inl (cJ, 1024, .inr (.inl w0))), (h_t_numbers_aboves, .inl (cJ, 1024, .inr (.inl w1)))] t.heap) (va_A [(h_t, .inr (7, [.ref h_t_desk, .ref h_t_imageDesk, .ref h_t_deeds, .ref h_t_numbers, .ref h_t_tape, .ref h_t_reader, .ref h_t_speller, .ref h_t_holders, .int t_imageKept])), (h_t_numbers, .inr (3, [.ref h_t_numbers_keys, .ref h_t_numbers_aboves, .ref h_t_numbers_rounds, .int t_numbers_round, .int t_numbers_size, .int t_numbers_sum, .long t_numbers_gathered])), (h_t_desk, .inr (1, [.int t_desk_genus, .int t_desk_size, .ref h_t_desk_powers, .int t_desk_limit, .long t_desk_tree])), (h_t_desk_powers, .inl (cI, 8, .inl a_t_desk_powers)), (h_t_numbers_keys, .inl (cJ, 1024, .inr (.inl a_t_numbers_keys))), (h_t_numbers_aboves, .inl (cJ, 1024, .inr (.inl a_t_numbers_aboves)))] sz)) 0 0 (va_A [(h_t, .inr (7, [.ref h_t_desk, .ref h_t_imageDesk, .ref h_t_deeds, .ref h_t_numbers, .ref h_t_tape, .ref h_t_reader, .ref h_t_speller, .ref h_t_holders, .int t_imageKept])), (h_t_numbers, .inr (3, [.ref h_t_numbers_keys, .ref h_t_numbers_aboves, .ref h_t_numbers_rounds, .int t_numbers_round, .int t_numbers_size, .int t_numbers_sum, .long t_numbers_gathered])), (h_t_desk, .inr (1, [.int t_desk_genus, .int t_desk_size, .ref h_t_desk_powers, .int t_desk_limit, .long t_desk_tree])), (h_t_desk_powers, .inl (cI, 8, .inl a_t_desk_powers)), (h_t_numbers_keys, .inl (cJ, 1024, .inr (.inl a_t_numbers_keys))), (h_t_numbers_aboves, .inl (cJ, 1024, .inr (.inl a_t_numbers_aboves)))] sz) := by
  refine Met.ofW (cc := cX8_number) (maxL := 2) (ret := (some .long)) (by decide) rfl ?_
  intro p e s m args below meth c s₁ B hml hv
  obtain ⟨rfl, hsz, hP, hK, hD0⟩ := hv
  have hx := B.exec
  have hb := B.bytes
  have hr := B.returns
  have hts := atoms_spec (ws := wsX8_number) B.pre
  have hta : ∀ w ∈ wA, w.before ([.ref h_t, .int p0] : List Value).toArray s = true := hta_of hts
  have hown : s.vm.findClass RX8 = some m.cls := findClass_of_methodNamed B.named
  have hlocks := B.notSynchronized
  subst hsz
  have hD := hD0.self (sz := s.heap.size)
  generalize hAe : va_A [(h_t, .inr (7, [.ref h_t_desk, .ref h_t_imageDesk, .ref h_t_deeds, .ref h_t_numbers, .ref h_t_tape, .ref h_t_reader, .ref h_t_speller, .ref h_t_holders, .int t_imageKept])), (h_t_numbers, .inr (3, [.ref h_t_numbers_keys, .ref h_t_numbers_aboves, .ref h_t_numbers_rounds, .int t_numbers_round, .int t_numbers_size, .int t_numbers_sum, .long t_numbers_gathered])), (h_t_desk, .inr (1, [.int t_desk_genus, .int t_desk_size, .ref h_t_desk_powers, .int t_desk_limit, .long t_desk_tree])), (h_t_desk_powers, .inl (cI, 8, .inl a_t_desk_powers)), (h_t_numbers_keys, .inl (cJ, 1024, .inr (.inl a_t_numbers_keys))), (h_t_numbers_aboves, .inl (cJ, 1024, .inr (.inl a_t_numbers_aboves)))] s.heap.size = A at hD ⊢
  have hA : ∀ q : Nat, s.heap.size ≤ q → A q := fun q h => by rw [← hAe]; exact Or.inr h
  have hS : va_S A s.heap s.heap [] := va_S.rf
  have hl := lv_entry ([.ref h_t, .int p0]) (n := 2) (Nat.le_of_ble_eq_true rfl)
  rw [lg_entry_eq]
  generalize (lg_sl ([.ref h_t, .int p0]) ++ List.replicate (2 - (lg_sl ([.ref h_t, .int p0])).length) Slot.unset).toArray = ls at hl ⊢
  have hl : lv_has ls 2 [(0, .ref h_t), (1, .int p0)] := hl
  have hinX1 : ∀ w ∈ wsX10, w ∈ wsX8_number := hin_of in_X1
  have hinX8 : ∀ w ∈ wsX80, w ∈ wsX8_number := hin_of in_X8
  have h := hF
  unfold F_X8_number at h
  refine lv_iload_n hx hb dX8_number_0 rfl (lv_at hl 1 rfl) ?_
  obtain ⟨x1, hx1, h⟩ := bd_e h
  try dsimp only at h
  refine k_SiU (n := 1) (As := [.int p0]) (rest := []) hx hb hml hown hts (c_X8_isPart l G cI cJ cD cH s.heap.size p0 x1 hx1) gX8_number_X8_isPart rfl rfl rfl (by decide +kernel) ⟨by first | exact Nat.le_of_ble_eq_true rfl | (simp only [headSpec]; omega), by first | exact Nat.le_of_ble_eq_true rfl | (simp only [headSpec]; omega)⟩ hK hP hD hS hA [] (by decide) rfl rfl rfl hl.1 (Nat.le_of_ble_eq_true rfl) dX8_number_1 ⟨Nat.zero_le _, Nat.zero_le _⟩ (fun hp1 H locs hP hS => ?_)
  refine lv_if_ne (tgt := 11) hx hb dX8_number_4 (by decide) (fun c2 => ?_) (fun c2 => ?_)
  rotate_left
  · have h := it_p h c2
    refine lv_ldc2 (v := (-9223372036854775808 : Int64)) hx hb hown (hta _ mw_424) dX8_number_7 ?_
    have h9 := Option.some.inj h
    have e9 : (-9223372036854775808 : Int64) = r0 := congrArg (fun z9 => z9.1) h9
    rw [← e9]
    have e9 : a_t_numbers_keys = w0 := congrArg (fun z9 => z9.2.1) h9
    rw [← e9]
    have e9 : a_t_numbers_aboves = w1 := congrArg (fun z9 => z9.2.2.1) h9
    rw [← e9]
    have e9 : t_numbers_size = w2 := congrArg (fun z9 => z9.2.2.2.1) h9
    rw [← e9]
    have e9 : t_numbers_sum = w3 := congrArg (fun z9 => z9.2.2.2.2.1) h9
    rw [← e9]
    have e9 : t_numbers_gathered = w4 := congrArg (fun z9 => z9.2.2.2.2.2) h9
    rw [← e9]
    exact k_lret hx hb hr hlocks hP hS rfl dX8_number_10
  have h := it_n h c2
  refine lv_aload_n hx hb dX8_number_11 rfl (lv_at hl 0 rfl) ?_
  refine lv_iconst (v := (-1 : Int32)) hx hb dX8_number_12 (by decide) ?_
  refine lv_iconst (v := (-1 : Int32)) hx hb dX8_number_13 (by decide) ?_
  refine lv_iconst (v := (-1 : Int32)) hx hb dX8_number_14 (by decide) ?_
  obtain ⟨x3, hx3, h⟩ := bd_e h
  try dsimp only at h
  refine k_VlM (n := 3) (As := [.int (-1 : Int32), .int (-1 : Int32), .int (-1 : Int32)]) (rest := []) hx hb hml hown hts (c_X8_aboveWith l G cI cJ cD cH H.size h_t h_t_numbers h_t_desk h_t_desk_powers h_t_numbers_keys h_t_numbers_aboves h_t_imageDesk h_t_deeds h_t_tape h_t_reader h_t_speller h_t_holders h_t_numbers_rounds t_imageKept t_numbers_round t_numbers_size t_numbers_sum t_numbers_gathered t_desk_genus t_desk_size t_desk_limit t_desk_tree a_t_desk_powers a_t_numbers_keys a_t_numbers_aboves (-1 : Int32) (-1 : Int32) (-1 : Int32) (x3.1) (x3.2.1) (x3.2.2.1) (x3.2.2.2.1) (x3.2.2.2.2.1) (x3.2.2.2.2.2) hx3) gX8_number_X8_aboveWith rfl rfl rfl (by decide +kernel) ⟨by first | exact Nat.le_of_ble_eq_true rfl | (simp only [headSpec]; omega), by first | exact Nat.le_of_ble_eq_true rfl | (simp only [headSpec]; omega)⟩ hK hP hD hS hA [0, 1, 2, 3, 4, 5] (by decide) rfl rfl (ci := 7) rfl rfl rfl rfl rfl hl.1 (Nat.le_of_ble_eq_true rfl) dX8_number_15 ⟨Nat.zero_le _, Nat.zero_le _⟩ [(h_t, .inr (7, [.ref h_t_desk, .ref h_t_imageDesk, .ref h_t_deeds, .ref h_t_numbers, .ref h_t_tape, .ref h_t_reader, .ref h_t_speller, .ref h_t_holders, .int t_imageKept])), (h_t_numbers, .inr (3, [.ref h_t_numbers_keys, .ref h_t_numbers_aboves, .ref h_t_numbers_rounds, .int t_numbers_round, .int (x3.2.2.2.1), .int (x3.2.2.2.2.1), .long (x3.2.2.2.2.2)])), (h_t_desk, .inr (1, [.int t_desk_genus, .int t_desk_size, .ref h_t_desk_powers, .int t_desk_limit, .long t_desk_tree])), (h_t_desk_powers, .inl (cI, 8, .inl a_t_desk_powers)), (h_t_numbers_keys, .inl (cJ, 1024, .inr (.inl (x3.2.1)))), (h_t_numbers_aboves, .inl (cJ, 1024, .inr (.inl (x3.2.2.1))))] [1, 2, 3, 4, 5, 6] 6 (by decide +kernel) rfl rfl rfl (fun hp3 H locs hP hD hS => ?_)
  refine lv_aload_n hx hb dX8_number_18 rfl (lv_at hl 0 rfl) ?_
  refine va_get (D := G) (ci := 7) (v := .ref h_t_desk) (C := RX8) (T := TX8) (N := 9) hx hb hts hinX8 hown hK hP 0 rfl rfl 0 (by decide) (hta _ mw_358) (fun _ h9 => h9) rfl dX8_number_19 ?_
  refine va_get (D := G) (ci := 1) (v := .int t_desk_genus) (C := RX1) (T := TX1) (N := 5) hx hb hts hinX1 hown hK hP 2 rfl rfl 0 (by decide) (hta _ mw_389) (fun _ h9 => h9) rfl dX8_number_22 ?_
  obtain ⟨x4, hx4, h⟩ := bd_e h
  try dsimp only at h
  refine k_SlU (n := 1) (As := [.int t_desk_genus]) (rest := [.long (x3.1)]) hx hb hml hown hts (c_X3_lineOf l G cI cJ cD cH H.size t_desk_genus x4 hx4) gX8_number_X3_lineOf rfl rfl rfl (by decide +kernel) ⟨by first | exact Nat.le_of_ble_eq_true rfl | (simp only [headSpec]; omega), by first | exact Nat.le_of_ble_eq_true rfl | (simp only [headSpec]; omega)⟩ hK hP hD hS hA [] (by decide) rfl rfl rfl hl.1 (Nat.le_of_ble_eq_true rfl) dX8_number_25 ⟨Nat.zero_le _, Nat.zero_le _⟩ (fun hp4 H locs hP hS => ?_)
  refine lv_iload_n hx hb dX8_number_28 rfl (lv_at hl 1 rfl) ?_
  obtain ⟨x5, hx5, h⟩ := bd_e h
  try dsimp only at h
  refine k_SlU (n := 3) (As := [.long (x3.1), .long x4, .int p0]) (rest := []) hx hb hml hown hts (c_X8_partOf l G cI cJ cD cH H.size (x3.1) x4 p0 x5 hx5) gX8_number_X8_partOf rfl rfl rfl (by decide +kernel) ⟨by first | exact Nat.le_of_ble_eq_true rfl | (simp only [headSpec]; omega), by first | exact Nat.le_of_ble_eq_true rfl | (simp only [headSpec]; omega)⟩ hK hP hD hS hA [] (by decide) rfl rfl rfl hl.1 (Nat.le_of_ble_eq_true rfl) dX8_number_29 ⟨Nat.zero_le _, Nat.zero_le _⟩ (fun hp5 H locs hP hS => ?_)
  have h9 := Option.some.inj h
  have e9 : x5 = r0 := congrArg (fun z9 => z9.1) h9
  rw [← e9]
  have e9 : (x3.2.1) = w0 := congrArg (fun z9 => z9.2.1) h9
  rw [← e9]
  have e9 : (x3.2.2.1) = w1 := congrArg (fun z9 => z9.2.2.1) h9
  rw [← e9]
  have e9 : (x3.2.2.2.1) = w2 := congrArg (fun z9 => z9.2.2.2.1) h9
  rw [← e9]
  have e9 : (x3.2.2.2.2.1) = w3 := congrArg (fun z9 => z9.2.2.2.2.1) h9
  rw [← e9]
  have e9 : (x3.2.2.2.2.2) = w4 := congrArg (fun z9 => z9.2.2.2.2.2) h9
  rw [← e9]
  exact k_lret hx hb hr hlocks hP hS rfl dX8_number_32

/-! X8_rule -/
set_option maxHeartbeats 4000000 in
set_option maxRecDepth 100000 in
theorem c_X8_rule (l : Launch) (G : va_G) (cI cJ cD cH : ClassId) (sz : Nat) (h_t : Nat) (h_t_numbers : Nat) (h_t_desk : Nat) (h_t_desk_powers : Nat) (h_t_imageDesk : Nat) (h_t_deeds : Nat) (h_t_tape : Nat) (h_t_reader : Nat) (h_t_speller : Nat) (h_t_holders : Nat) (h_t_numbers_keys : Nat) (h_t_numbers_aboves : Nat) (h_t_numbers_rounds : Nat) (t_imageKept : Int32) (t_numbers_round : Int32) (t_numbers_size : Int32) (t_numbers_sum : Int32) (t_numbers_gathered : Int64) (t_desk_genus : Int32) (t_desk_size : Int32) (t_desk_limit : Int32) (t_desk_tree : Int64) (a_t_desk_powers : Nat → Int32) (r0 : Int32) (w0 : Int32) (w1 : Int32) (w2 : Int64) (hF : F_X8_rule t_desk_genus t_desk_size a_t_desk_powers = some (r0, w0, w1, w2)) : Met l yX8_rule wsX8_rule ({ frames := 2, cells := 0, slots := 0, locals := 45 }) (k_pre G (k_T cI cJ cD cH) [(h_t, .inr (7, [.ref h_t_desk, .ref h_t_imageDesk, .ref h_t_deeds, .ref h_t_numbers, .ref h_t_tape, .ref h_t_reader, .ref h_t_speller, .ref h_t_holders, .int t_imageKept])), (h_t_numbers, .inr (3, [.ref h_t_numbers_keys, .ref h_t_numbers_aboves, .ref h_t_numbers_rounds, .int t_numbers_round, .int t_numbers_size, .int t_numbers_sum, .long t_numbers_gathered])), (h_t_desk, .inr (1, [.int t_desk_genus, .int t_desk_size, .ref h_t_desk_powers, .int t_desk_limit, .long t_desk_tree])), (h_t_desk_powers, .inl (cI, 8, .inl a_t_desk_powers))] sz [.ref h_t]) (va_Qi (fun r (_ : Unit) => r = r0 ∧ True) (fun _ t => va_P G vwCl [(h_t, .inr (7, [.ref h_t_desk, .ref h_t_imageDesk, .ref h_t_deeds, .ref h_t_numbers, .ref h_t_tape, .ref h_t_reader, .ref h_t_speller, .ref h_t_holders, .int t_imageKept])), (h_t_numbers, .inr (3, [.ref h_t_numbers_keys, .ref h_t_numbers_aboves, .ref h_t_numbers_rounds, .int t_numbers_round, .int w0, .int w1, .long w2])), (h_t_desk, .inr (1, [.int t_desk_genus, .int t_desk_size, .ref h_t_desk_powers, .int t_desk_limit, .long t_desk_tree])), (h_t_desk_powers, .inl (cI, 8, .inl a_t_desk_powers))] t.heap) (va_A [(h_t, .inr (7, [.ref h_t_desk, .ref h_t_imageDesk, .ref h_t_deeds, .ref h_t_numbers, .ref h_t_tape, .ref h_t_reader, .ref h_t_speller, .ref h_t_holders, .int t_imageKept])), (h_t_numbers, .inr (3, [.ref h_t_numbers_keys, .ref h_t_numbers_aboves, .ref h_t_numbers_rounds, .int t_numbers_round, .int t_numbers_size, .int t_numbers_sum, .long t_numbers_gathered])), (h_t_desk, .inr (1, [.int t_desk_genus, .int t_desk_size, .ref h_t_desk_powers, .int t_desk_limit, .long t_desk_tree])), (h_t_desk_powers, .inl (cI, 8, .inl a_t_desk_powers))] sz)) 0 0 (va_A [(h_t, .inr (7, [.ref h_t_desk, .ref h_t_imageDesk, .ref h_t_deeds, .ref h_t_numbers, .ref h_t_tape, .ref h_t_reader, .ref h_t_speller, .ref h_t_holders, .int t_imageKept])), (h_t_numbers, .inr (3, [.ref h_t_numbers_keys, .ref h_t_numbers_aboves, .ref h_t_numbers_rounds, .int t_numbers_round, .int t_numbers_size, .int t_numbers_sum, .long t_numbers_gathered])), (h_t_desk, .inr (1, [.int t_desk_genus, .int t_desk_size, .ref h_t_desk_powers, .int t_desk_limit, .long t_desk_tree])), (h_t_desk_powers, .inl (cI, 8, .inl a_t_desk_powers))] sz) := by
  refine Met.ofW (cc := cX8_rule) (maxL := 1) (ret := (some .int)) (by decide) rfl ?_
  intro p e s m args below meth c s₁ B hml hv
  obtain ⟨rfl, hsz, hP, hK, hD0⟩ := hv
  have hx := B.exec
  have hb := B.bytes
  have hr := B.returns
  have hts := atoms_spec (ws := wsX8_rule) B.pre
  have hta : ∀ w ∈ wA, w.before ([.ref h_t] : List Value).toArray s = true := hta_of hts
  have hown : s.vm.findClass RX8 = some m.cls := findClass_of_methodNamed B.named
  have hlocks := B.notSynchronized
  subst hsz
  have hD := hD0.self (sz := s.heap.size)
  generalize hAe : va_A [(h_t, .inr (7, [.ref h_t_desk, .ref h_t_imageDesk, .ref h_t_deeds, .ref h_t_numbers, .ref h_t_tape, .ref h_t_reader, .ref h_t_speller, .ref h_t_holders, .int t_imageKept])), (h_t_numbers, .inr (3, [.ref h_t_numbers_keys, .ref h_t_numbers_aboves, .ref h_t_numbers_rounds, .int t_numbers_round, .int t_numbers_size, .int t_numbers_sum, .long t_numbers_gathered])), (h_t_desk, .inr (1, [.int t_desk_genus, .int t_desk_size, .ref h_t_desk_powers, .int t_desk_limit, .long t_desk_tree])), (h_t_desk_powers, .inl (cI, 8, .inl a_t_desk_powers))] s.heap.size = A at hD ⊢
  have hA : ∀ q : Nat, s.heap.size ≤ q → A q := fun q h => by rw [← hAe]; exact Or.inr h
  have hS : va_S A s.heap s.heap [] := va_S.rf
  have hl := lv_entry ([.ref h_t]) (n := 1) (Nat.le_of_ble_eq_true rfl)
  rw [lg_entry_eq]
  generalize (lg_sl ([.ref h_t]) ++ List.replicate (1 - (lg_sl ([.ref h_t])).length) Slot.unset).toArray = ls at hl ⊢
  have hl : lv_has ls 1 [(0, .ref h_t)] := hl
  have h := hF
  unfold F_X8_rule at h
  refine lv_aload_n hx hb dX8_rule_0 rfl (lv_at hl 0 rfl) ?_
  refine lv_iconst (v := (-1 : Int32)) hx hb dX8_rule_1 (by decide) ?_
  refine lv_iconst (v := (-1 : Int32)) hx hb dX8_rule_2 (by decide) ?_
  refine lv_iconst (v := (-1 : Int32)) hx hb dX8_rule_3 (by decide) ?_
  obtain ⟨x1, hx1, h⟩ := bd_e h
  try dsimp only at h
  refine k_VlM (n := 3) (As := [.int (-1 : Int32), .int (-1 : Int32), .int (-1 : Int32)]) (rest := []) hx hb hml hown hts (c_X8_keyWith l G cI cJ cD cH s.heap.size h_t h_t_numbers h_t_desk h_t_desk_powers h_t_imageDesk h_t_deeds h_t_tape h_t_reader h_t_speller h_t_holders h_t_numbers_keys h_t_numbers_aboves h_t_numbers_rounds t_imageKept t_numbers_round t_numbers_size t_numbers_sum t_numbers_gathered t_desk_genus t_desk_size t_desk_limit t_desk_tree a_t_desk_powers (-1 : Int32) (-1 : Int32) (-1 : Int32) (x1.1) (x1.2.1) (x1.2.2.1) (x1.2.2.2) hx1) gX8_rule_X8_keyWith rfl rfl rfl (by decide +kernel) ⟨by first | exact Nat.le_of_ble_eq_true rfl | (simp only [headSpec]; omega), by first | exact Nat.le_of_ble_eq_true rfl | (simp only [headSpec]; omega)⟩ hK hP hD hS hA [0, 1, 2, 3] (by decide) rfl rfl (ci := 7) rfl rfl rfl rfl rfl hl.1 (Nat.le_of_ble_eq_true rfl) dX8_rule_4 ⟨Nat.zero_le _, Nat.zero_le _⟩ [(h_t, .inr (7, [.ref h_t_desk, .ref h_t_imageDesk, .ref h_t_deeds, .ref h_t_numbers, .ref h_t_tape, .ref h_t_reader, .ref h_t_speller, .ref h_t_holders, .int t_imageKept])), (h_t_numbers, .inr (3, [.ref h_t_numbers_keys, .ref h_t_numbers_aboves, .ref h_t_numbers_rounds, .int t_numbers_round, .int (x1.2.1), .int (x1.2.2.1), .long (x1.2.2.2)])), (h_t_desk, .inr (1, [.int t_desk_genus, .int t_desk_size, .ref h_t_desk_powers, .int t_desk_limit, .long t_desk_tree])), (h_t_desk_powers, .inl (cI, 8, .inl a_t_desk_powers))] [1, 2, 3, 4] 4 (by decide +kernel) rfl rfl rfl (fun hp1 H locs hP hD hS => ?_)
  obtain ⟨x2, hx2, h⟩ := bd_e h
  try dsimp only at h
  refine k_SiU (n := 1) (As := [.long (x1.1)]) (rest := []) hx hb hml hown hts (c_X3_ruleOf l G cI cJ cD cH H.size (x1.1) x2 hx2) gX8_rule_X3_ruleOf rfl rfl rfl (by decide +kernel) ⟨by first | exact Nat.le_of_ble_eq_true rfl | (simp only [headSpec]; omega), by first | exact Nat.le_of_ble_eq_true rfl | (simp only [headSpec]; omega)⟩ hK hP hD hS hA [] (by decide) rfl rfl rfl hl.1 (Nat.le_of_ble_eq_true rfl) dX8_rule_7 ⟨Nat.zero_le _, Nat.zero_le _⟩ (fun hp2 H locs hP hS => ?_)
  have h9 := Option.some.inj h
  have e9 : x2 = r0 := congrArg (fun z9 => z9.1) h9
  rw [← e9]
  have e9 : (x1.2.1) = w0 := congrArg (fun z9 => z9.2.1) h9
  rw [← e9]
  have e9 : (x1.2.2.1) = w1 := congrArg (fun z9 => z9.2.2.1) h9
  rw [← e9]
  have e9 : (x1.2.2.2) = w2 := congrArg (fun z9 => z9.2.2.2) h9
  rw [← e9]
  exact k_iret hx hb hr hlocks hP hS rfl dX8_rule_10

/-! X8_met -/
set_option maxHeartbeats 4000000 in
set_option maxRecDepth 100000 in
theorem c_X8_met (l : Launch) (G : va_G) (cI cJ cD cH : ClassId) (sz : Nat) (h_t : Nat) (h_t_numbers : Nat) (h_t_desk : Nat) (h_t_desk_powers : Nat) (h_t_numbers_keys : Nat) (h_t_numbers_aboves : Nat) (h_t_numbers_rounds : Nat) (h_t_imageDesk : Nat) (h_t_deeds : Nat) (h_t_tape : Nat) (h_t_reader : Nat) (h_t_speller : Nat) (h_t_holders : Nat) (t_imageKept : Int32) (t_numbers_round : Int32) (t_numbers_size : Int32) (t_numbers_sum : Int32) (t_numbers_gathered : Int64) (t_desk_genus : Int32) (t_desk_size : Int32) (t_desk_limit : Int32) (t_desk_tree : Int64) (a_t_desk_powers : Nat → Int32) (a_t_numbers_keys : Nat → Int64) (a_t_numbers_aboves : Nat → Int64) (a_t_numbers_rounds : Nat → Int32) (r0 : Int32) (w0 : Nat → Int64) (w1 : Nat → Int64) (w2 : Nat → Int32) (w3 : Int32) (w4 : Int32) (w5 : Int32) (w6 : Int64) (hF : F_X8_met t_numbers_round t_desk_genus t_desk_size a_t_desk_powers a_t_numbers_keys a_t_numbers_aboves a_t_numbers_rounds = some (r0, w0, w1, w2, w3, w4, w5, w6)) : Met l yX8_met wsX8_met ({ frames := 24, cells := 0, slots := 0, locals := 701 }) (k_pre G (k_T cI cJ cD cH) [(h_t, .inr (7, [.ref h_t_desk, .ref h_t_imageDesk, .ref h_t_deeds, .ref h_t_numbers, .ref h_t_tape, .ref h_t_reader, .ref h_t_speller, .ref h_t_holders, .int t_imageKept])), (h_t_numbers, .inr (3, [.ref h_t_numbers_keys, .ref h_t_numbers_aboves, .ref h_t_numbers_rounds, .int t_numbers_round, .int t_numbers_size, .int t_numbers_sum, .long t_numbers_gathered])), (h_t_desk, .inr (1, [.int t_desk_genus, .int t_desk_size, .ref h_t_desk_powers, .int t_desk_limit, .long t_desk_tree])), (h_t_desk_powers, .inl (cI, 8, .inl a_t_desk_powers)), (h_t_numbers_keys, .inl (cJ, 1024, .inr (.inl a_t_numbers_keys))), (h_t_numbers_aboves, .inl (cJ, 1024, .inr (.inl a_t_numbers_aboves))), (h_t_numbers_rounds, .inl (cI, 1024, .inl a_t_numbers_rounds))] sz [.ref h_t]) (va_Qi (fun r (_ : Unit) => r = r0 ∧ True) (fun _ t => va_P G vwCl [(h_t, .inr (7, [.ref h_t_desk, .ref h_t_imageDesk, .ref h_t_deeds, .ref h_t_numbers, .ref h_t_tape, .ref h_t_reader, .ref h_t_speller, .ref h_t_holders, .int t_imageKept])), (h_t_numbers, .inr (3, [.ref h_t_numbers_keys, .ref h_t_numbers_aboves, .ref h_t_numbers_rounds, .int w3, .int w4, .int w5, .long w6])), (h_t_desk, .inr (1, [.int t_desk_genus, .int t_desk_size, .ref h_t_desk_powers, .int t_desk_limit, .long t_desk_tree])), (h_t_desk_powers, .inl (cI, 8, .inl a_t_desk_powers)), (h_t_numbers_keys, .inl (cJ, 1024, .inr (.inl w0))), (h_t_numbers_aboves, .inl (cJ, 1024, .inr (.inl w1))), (h_t_numbers_rounds, .inl (cI, 1024, .inl w2))] t.heap) (va_A [(h_t, .inr (7, [.ref h_t_desk, .ref h_t_imageDesk, .ref h_t_deeds, .ref h_t_numbers, .ref h_t_tape, .ref h_t_reader, .ref h_t_speller, .ref h_t_holders, .int t_imageKept])), (h_t_numbers, .inr (3, [.ref h_t_numbers_keys, .ref h_t_numbers_aboves, .ref h_t_numbers_rounds, .int t_numbers_round, .int t_numbers_size, .int t_numbers_sum, .long t_numbers_gathered])), (h_t_desk, .inr (1, [.int t_desk_genus, .int t_desk_size, .ref h_t_desk_powers, .int t_desk_limit, .long t_desk_tree])), (h_t_desk_powers, .inl (cI, 8, .inl a_t_desk_powers)), (h_t_numbers_keys, .inl (cJ, 1024, .inr (.inl a_t_numbers_keys))), (h_t_numbers_aboves, .inl (cJ, 1024, .inr (.inl a_t_numbers_aboves))), (h_t_numbers_rounds, .inl (cI, 1024, .inl a_t_numbers_rounds))] sz)) 0 0 (va_A [(h_t, .inr (7, [.ref h_t_desk, .ref h_t_imageDesk, .ref h_t_deeds, .ref h_t_numbers, .ref h_t_tape, .ref h_t_reader, .ref h_t_speller, .ref h_t_holders, .int t_imageKept])), (h_t_numbers, .inr (3, [.ref h_t_numbers_keys, .ref h_t_numbers_aboves, .ref h_t_numbers_rounds, .int t_numbers_round, .int t_numbers_size, .int t_numbers_sum, .long t_numbers_gathered])), (h_t_desk, .inr (1, [.int t_desk_genus, .int t_desk_size, .ref h_t_desk_powers, .int t_desk_limit, .long t_desk_tree])), (h_t_desk_powers, .inl (cI, 8, .inl a_t_desk_powers)), (h_t_numbers_keys, .inl (cJ, 1024, .inr (.inl a_t_numbers_keys))), (h_t_numbers_aboves, .inl (cJ, 1024, .inr (.inl a_t_numbers_aboves))), (h_t_numbers_rounds, .inl (cI, 1024, .inl a_t_numbers_rounds))] sz) := by
  refine Met.ofW (cc := cX8_met) (maxL := 1) (ret := (some .int)) (by decide) rfl ?_
  intro p e s m args below meth c s₁ B hml hv
  obtain ⟨rfl, hsz, hP, hK, hD0⟩ := hv
  have hx := B.exec
  have hb := B.bytes
  have hr := B.returns
  have hts := atoms_spec (ws := wsX8_met) B.pre
  have hta : ∀ w ∈ wA, w.before ([.ref h_t] : List Value).toArray s = true := hta_of hts
  have hown : s.vm.findClass RX8 = some m.cls := findClass_of_methodNamed B.named
  have hlocks := B.notSynchronized
  subst hsz
  have hD := hD0.self (sz := s.heap.size)
  generalize hAe : va_A [(h_t, .inr (7, [.ref h_t_desk, .ref h_t_imageDesk, .ref h_t_deeds, .ref h_t_numbers, .ref h_t_tape, .ref h_t_reader, .ref h_t_speller, .ref h_t_holders, .int t_imageKept])), (h_t_numbers, .inr (3, [.ref h_t_numbers_keys, .ref h_t_numbers_aboves, .ref h_t_numbers_rounds, .int t_numbers_round, .int t_numbers_size, .int t_numbers_sum, .long t_numbers_gathered])), (h_t_desk, .inr (1, [.int t_desk_genus, .int t_desk_size, .ref h_t_desk_powers, .int t_desk_limit, .long t_desk_tree])), (h_t_desk_powers, .inl (cI, 8, .inl a_t_desk_powers)), (h_t_numbers_keys, .inl (cJ, 1024, .inr (.inl a_t_numbers_keys))), (h_t_numbers_aboves, .inl (cJ, 1024, .inr (.inl a_t_numbers_aboves))), (h_t_numbers_rounds, .inl (cI, 1024, .inl a_t_numbers_rounds))] s.heap.size = A at hD ⊢
  have hA : ∀ q : Nat, s.heap.size ≤ q → A q := fun q h => by rw [← hAe]; exact Or.inr h
  have hS : va_S A s.heap s.heap [] := va_S.rf
  have hl := lv_entry ([.ref h_t]) (n := 1) (Nat.le_of_ble_eq_true rfl)
  rw [lg_entry_eq]
  generalize (lg_sl ([.ref h_t]) ++ List.replicate (1 - (lg_sl ([.ref h_t])).length) Slot.unset).toArray = ls at hl ⊢
  have hl : lv_has ls 1 [(0, .ref h_t)] := hl
  have hinX8 : ∀ w ∈ wsX80, w ∈ wsX8_met := hin_of in_X8
  have h := hF
  unfold F_X8_met at h
  refine lv_aload_n hx hb dX8_met_0 rfl (lv_at hl 0 rfl) ?_
  refine va_get (D := G) (ci := 7) (v := .ref h_t_numbers) (C := RX8) (T := TX8) (N := 9) hx hb hts hinX8 hown hK hP 0 rfl rfl 3 (by decide) (hta _ mw_365) (fun _ h9 => h9) rfl dX8_met_1 ?_
  refine lv_aload_n hx hb dX8_met_4 rfl (lv_at hl 0 rfl) ?_
  refine lv_iconst (v := (-1 : Int32)) hx hb dX8_met_5 (by decide) ?_
  refine lv_iconst (v := (-1 : Int32)) hx hb dX8_met_6 (by decide) ?_
  refine lv_iconst (v := (-1 : Int32)) hx hb dX8_met_7 (by decide) ?_
  obtain ⟨x1, hx1, h⟩ := bd_e h
  try dsimp only at h
  refine k_VlM (n := 3) (As := [.int (-1 : Int32), .int (-1 : Int32), .int (-1 : Int32)]) (rest := [.ref h_t_numbers]) hx hb hml hown hts (c_X8_keyWith l G cI cJ cD cH s.heap.size h_t h_t_numbers h_t_desk h_t_desk_powers h_t_imageDesk h_t_deeds h_t_tape h_t_reader h_t_speller h_t_holders h_t_numbers_keys h_t_numbers_aboves h_t_numbers_rounds t_imageKept t_numbers_round t_numbers_size t_numbers_sum t_numbers_gathered t_desk_genus t_desk_size t_desk_limit t_desk_tree a_t_desk_powers (-1 : Int32) (-1 : Int32) (-1 : Int32) (x1.1) (x1.2.1) (x1.2.2.1) (x1.2.2.2) hx1) gX8_met_X8_keyWith rfl rfl rfl (by decide +kernel) ⟨by first | exact Nat.le_of_ble_eq_true rfl | (simp only [headSpec]; omega), by first | exact Nat.le_of_ble_eq_true rfl | (simp only [headSpec]; omega)⟩ hK hP hD hS hA [0, 1, 2, 3] (by decide) rfl rfl (ci := 7) rfl rfl rfl rfl rfl hl.1 (Nat.le_of_ble_eq_true rfl) dX8_met_8 ⟨Nat.zero_le _, Nat.zero_le _⟩ [(h_t, .inr (7, [.ref h_t_desk, .ref h_t_imageDesk, .ref h_t_deeds, .ref h_t_numbers, .ref h_t_tape, .ref h_t_reader, .ref h_t_speller, .ref h_t_holders, .int t_imageKept])), (h_t_numbers, .inr (3, [.ref h_t_numbers_keys, .ref h_t_numbers_aboves, .ref h_t_numbers_rounds, .int t_numbers_round, .int (x1.2.1), .int (x1.2.2.1), .long (x1.2.2.2)])), (h_t_desk, .inr (1, [.int t_desk_genus, .int t_desk_size, .ref h_t_desk_powers, .int t_desk_limit, .long t_desk_tree])), (h_t_desk_powers, .inl (cI, 8, .inl a_t_desk_powers)), (h_t_numbers_keys, .inl (cJ, 1024, .inr (.inl a_t_numbers_keys))), (h_t_numbers_aboves, .inl (cJ, 1024, .inr (.inl a_t_numbers_aboves))), (h_t_numbers_rounds, .inl (cI, 1024, .inl a_t_numbers_rounds))] [1, 2, 3, 4, 0, 0, 0] 4 (by decide +kernel) rfl rfl rfl (fun hp1 H locs hP hD hS => ?_)
  obtain ⟨x2, hx2, h⟩ := bd_e h
  try dsimp only at h
  refine k_ViM (n := 1) (As := [.long (x1.1)]) (rest := []) hx hb hml hown hts (c_X3_countMet l G cI cJ cD cH H.size h_t_numbers h_t_numbers_keys h_t_numbers_aboves h_t_numbers_rounds t_numbers_round (x1.2.1) (x1.2.2.1) (x1.2.2.2) a_t_numbers_keys a_t_numbers_aboves a_t_numbers_rounds (x1.1) (x2.1) (x2.2.1) (x2.2.2.1) (x2.2.2.2.1) (x2.2.2.2.2) hx2) gX8_met_X3_countMet rfl rfl rfl (by decide +kernel) ⟨by first | exact Nat.le_of_ble_eq_true rfl | (simp only [headSpec]; omega), by first | exact Nat.le_of_ble_eq_true rfl | (simp only [headSpec]; omega)⟩ hK hP hD hS hA [1, 4, 5, 6] (by decide) rfl rfl (ci := 3) rfl rfl rfl rfl rfl hl.1 (Nat.le_of_ble_eq_true rfl) dX8_met_11 ⟨Nat.zero_le _, Nat.zero_le _⟩ [(h_t, .inr (7, [.ref h_t_desk, .ref h_t_imageDesk, .ref h_t_deeds, .ref h_t_numbers, .ref h_t_tape, .ref h_t_reader, .ref h_t_speller, .ref h_t_holders, .int t_imageKept])), (h_t_numbers, .inr (3, [.ref h_t_numbers_keys, .ref h_t_numbers_aboves, .ref h_t_numbers_rounds, .int (x2.2.2.2.2), .int (x1.2.1), .int (x1.2.2.1), .long (x1.2.2.2)])), (h_t_desk, .inr (1, [.int t_desk_genus, .int t_desk_size, .ref h_t_desk_powers, .int t_desk_limit, .long t_desk_tree])), (h_t_desk_powers, .inl (cI, 8, .inl a_t_desk_powers)), (h_t_numbers_keys, .inl (cJ, 1024, .inr (.inl (x2.2.1)))), (h_t_numbers_aboves, .inl (cJ, 1024, .inr (.inl (x2.2.2.1)))), (h_t_numbers_rounds, .inl (cI, 1024, .inl (x2.2.2.2.1)))] [0, 1, 0, 0, 2, 3, 4] 4 (by decide +kernel) rfl rfl rfl (fun hp2 H locs hP hD hS => ?_)
  have h9 := Option.some.inj h
  have e9 : (x2.1) = r0 := congrArg (fun z9 => z9.1) h9
  rw [← e9]
  have e9 : (x2.2.1) = w0 := congrArg (fun z9 => z9.2.1) h9
  rw [← e9]
  have e9 : (x2.2.2.1) = w1 := congrArg (fun z9 => z9.2.2.1) h9
  rw [← e9]
  have e9 : (x2.2.2.2.1) = w2 := congrArg (fun z9 => z9.2.2.2.1) h9
  rw [← e9]
  have e9 : (x2.2.2.2.2) = w3 := congrArg (fun z9 => z9.2.2.2.2.1) h9
  rw [← e9]
  have e9 : (x1.2.1) = w4 := congrArg (fun z9 => z9.2.2.2.2.2.1) h9
  rw [← e9]
  have e9 : (x1.2.2.1) = w5 := congrArg (fun z9 => z9.2.2.2.2.2.2.1) h9
  rw [← e9]
  have e9 : (x1.2.2.2) = w6 := congrArg (fun z9 => z9.2.2.2.2.2.2.2) h9
  rw [← e9]
  exact k_iret hx hb hr hlocks hP hS rfl dX8_met_14

/-! X8_isKappa -/
set_option maxHeartbeats 4000000 in
set_option maxRecDepth 100000 in
theorem c_X8_isKappa (l : Launch) (G : va_G) (cI cJ cD cH : ClassId) (sz : Nat) (p0 : Int32) (r0 : Int32) (hF : F_X8_isKappa p0 = some r0) : Met l yX8_isKappa wsX8_isKappa ({ frames := 0, cells := 0, slots := 0, locals := 0 }) (k_pre G (k_T cI cJ cD cH) [] sz [.int p0]) (va_Qi (fun r (_ : Unit) => r = r0 ∧ narrow .boolean (.int r0) = .int r0) (fun _ t => va_P G vwCl [] t.heap) (va_A [] sz)) 0 0 (va_A [] sz) := by
  refine Met.ofW (cc := cX8_isKappa) (maxL := 1) (ret := (some .boolean)) (by decide) rfl ?_
  intro p e s m args below meth c s₁ B hml hv
  obtain ⟨rfl, hsz, hP, hK, hD0⟩ := hv
  have hx := B.exec
  have hb := B.bytes
  have hr := B.returns
  have hts := atoms_spec (ws := wsX8_isKappa) B.pre
  have hta : ∀ w ∈ wA, w.before ([.int p0] : List Value).toArray s = true := hta_of hts
  have hown : s.vm.findClass RX8 = some m.cls := findClass_of_methodNamed B.named
  have hlocks := B.notSynchronized
  subst hsz
  have hD := hD0.self (sz := s.heap.size)
  generalize hAe : va_A [] s.heap.size = A at hD ⊢
  have hA : ∀ q : Nat, s.heap.size ≤ q → A q := fun q h => by rw [← hAe]; exact Or.inr h
  have hS : va_S A s.heap s.heap [] := va_S.rf
  have hl := lv_entry ([.int p0]) (n := 1) (Nat.le_of_ble_eq_true rfl)
  rw [lg_entry_eq]
  generalize (lg_sl ([.int p0]) ++ List.replicate (1 - (lg_sl ([.int p0])).length) Slot.unset).toArray = ls at hl ⊢
  have hl : lv_has ls 1 [(0, .int p0)] := hl
  have h := hF
  unfold F_X8_isKappa at h
  refine lv_iload_n hx hb dX8_isKappa_0 rfl (lv_at hl 0 rfl) ?_
  refine lv_iconst (v := (-1 : Int32)) hx hb dX8_isKappa_1 (by decide) ?_
  refine lv_icmp_lt (tgt := 15) hx hb dX8_isKappa_2 (by decide) (fun c1 => ?_) (fun c1 => ?_)
  · have h := it_p h c1
    refine lv_iconst (v := (0 : Int32)) hx hb dX8_isKappa_15 (by decide) ?_
    have h9 := Option.some.inj h
    have e9 : (0 : Int32) = r0 := congrArg (fun z9 => z9) h9
    rw [← e9]
    exact k_zret hx hb hr hlocks hP hS rfl rfl dX8_isKappa_16
  have h := it_n h c1
  refine lv_iload_n hx hb dX8_isKappa_5 rfl (lv_at hl 0 rfl) ?_
  refine lv_bipush (v := (9 : Int32)) hx hb dX8_isKappa_6 (by decide) ?_
  refine lv_icmp_gt (tgt := 15) hx hb dX8_isKappa_8 (by decide) (fun c2 => ?_) (fun c2 => ?_)
  · have h := it_p h c2
    refine lv_iconst (v := (0 : Int32)) hx hb dX8_isKappa_15 (by decide) ?_
    have h9 := Option.some.inj h
    have e9 : (0 : Int32) = r0 := congrArg (fun z9 => z9) h9
    rw [← e9]
    exact k_zret hx hb hr hlocks hP hS rfl rfl dX8_isKappa_16
  have h := it_n h c2
  refine lv_iconst (v := (1 : Int32)) hx hb dX8_isKappa_11 (by decide) ?_
  refine lv_goto (tgt := 16) hx hb dX8_isKappa_12 (by decide) ?_
  have h9 := Option.some.inj h
  have e9 : (1 : Int32) = r0 := congrArg (fun z9 => z9) h9
  rw [← e9]
  exact k_zret hx hb hr hlocks hP hS rfl rfl dX8_isKappa_16

/-! X8_kappaOfTwo -/
set_option maxHeartbeats 4000000 in
set_option maxRecDepth 100000 in
theorem c_X8_kappaOfTwo (l : Launch) (G : va_G) (cI cJ cD cH : ClassId) (sz : Nat) (h_t : Nat) (h_t_numbers : Nat) (h_t_desk : Nat) (h_t_desk_powers : Nat) (h_t_numbers_keys : Nat) (h_t_numbers_aboves : Nat) (h_t_imageDesk : Nat) (h_t_deeds : Nat) (h_t_tape : Nat) (h_t_reader : Nat) (h_t_speller : Nat) (h_t_holders : Nat) (h_t_numbers_rounds : Nat) (t_imageKept : Int32) (t_numbers_round : Int32) (t_numbers_size : Int32) (t_numbers_sum : Int32) (t_numbers_gathered : Int64) (t_desk_genus : Int32) (t_desk_size : Int32) (t_desk_limit : Int32) (t_desk_tree : Int64) (a_t_desk_powers : Nat → Int32) (a_t_numbers_keys : Nat → Int64) (a_t_numbers_aboves : Nat → Int64) (p0 : Int32) (p1 : Int32) (r0 : Int64) (w0 : Nat → Int64) (w1 : Nat → Int64) (w2 : Int32) (w3 : Int32) (w4 : Int64) (hF : F_X8_kappaOfTwo t_desk_genus t_desk_size a_t_desk_powers a_t_numbers_keys a_t_numbers_aboves p0 p1 = some (r0, w0, w1, w2, w3, w4)) : Met l yX8_kappaOfTwo wsX8_kappaOfTwo ({ frames := 25, cells := 0, slots := 0, locals := 724 }) (k_pre G (k_T cI cJ cD cH) [(h_t, .inr (7, [.ref h_t_desk, .ref h_t_imageDesk, .ref h_t_deeds, .ref h_t_numbers, .ref h_t_tape, .ref h_t_reader, .ref h_t_speller, .ref h_t_holders, .int t_imageKept])), (h_t_numbers, .inr (3, [.ref h_t_numbers_keys, .ref h_t_numbers_aboves, .ref h_t_numbers_rounds, .int t_numbers_round, .int t_numbers_size, .int t_numbers_sum, .long t_numbers_gathered])), (h_t_desk, .inr (1, [.int t_desk_genus, .int t_desk_size, .ref h_t_desk_powers, .int t_desk_limit, .long t_desk_tree])), (h_t_desk_powers, .inl (cI, 8, .inl a_t_desk_powers)), (h_t_numbers_keys, .inl (cJ, 1024, .inr (.inl a_t_numbers_keys))), (h_t_numbers_aboves, .inl (cJ, 1024, .inr (.inl a_t_numbers_aboves)))] sz [.ref h_t, .int p0, .int p1]) (va_Ql (fun r (_ : Unit) => r = r0 ∧ True) (fun _ t => va_P G vwCl [(h_t, .inr (7, [.ref h_t_desk, .ref h_t_imageDesk, .ref h_t_deeds, .ref h_t_numbers, .ref h_t_tape, .ref h_t_reader, .ref h_t_speller, .ref h_t_holders, .int t_imageKept])), (h_t_numbers, .inr (3, [.ref h_t_numbers_keys, .ref h_t_numbers_aboves, .ref h_t_numbers_rounds, .int t_numbers_round, .int w2, .int w3, .long w4])), (h_t_desk, .inr (1, [.int t_desk_genus, .int t_desk_size, .ref h_t_desk_powers, .int t_desk_limit, .long t_desk_tree])), (h_t_desk_powers, .inl (cI, 8, .inl a_t_desk_powers)), (h_t_numbers_keys, .inl (cJ, 1024, .inr (.inl w0))), (h_t_numbers_aboves, .inl (cJ, 1024, .inr (.inl w1)))] t.heap) (va_A [(h_t, .inr (7, [.ref h_t_desk, .ref h_t_imageDesk, .ref h_t_deeds, .ref h_t_numbers, .ref h_t_tape, .ref h_t_reader, .ref h_t_speller, .ref h_t_holders, .int t_imageKept])), (h_t_numbers, .inr (3, [.ref h_t_numbers_keys, .ref h_t_numbers_aboves, .ref h_t_numbers_rounds, .int t_numbers_round, .int t_numbers_size, .int t_numbers_sum, .long t_numbers_gathered])), (h_t_desk, .inr (1, [.int t_desk_genus, .int t_desk_size, .ref h_t_desk_powers, .int t_desk_limit, .long t_desk_tree])), (h_t_desk_powers, .inl (cI, 8, .inl a_t_desk_powers)), (h_t_numbers_keys, .inl (cJ, 1024, .inr (.inl a_t_numbers_keys))), (h_t_numbers_aboves, .inl (cJ, 1024, .inr (.inl a_t_numbers_aboves)))] sz)) 0 0 (va_A [(h_t, .inr (7, [.ref h_t_desk, .ref h_t_imageDesk, .ref h_t_deeds, .ref h_t_numbers, .ref h_t_tape, .ref h_t_reader, .ref h_t_speller, .ref h_t_holders, .int t_imageKept])), (h_t_numbers, .inr (3, [.ref h_t_numbers_keys, .ref h_t_numbers_aboves, .ref h_t_numbers_rounds, .int t_numbers_round, .int t_numbers_size, .int t_numbers_sum, .long t_numbers_gathered])), (h_t_desk, .inr (1, [.int t_desk_genus, .int t_desk_size, .ref h_t_desk_powers, .int t_desk_limit, .long t_desk_tree])), (h_t_desk_powers, .inl (cI, 8, .inl a_t_desk_powers)), (h_t_numbers_keys, .inl (cJ, 1024, .inr (.inl a_t_numbers_keys))), (h_t_numbers_aboves, .inl (cJ, 1024, .inr (.inl a_t_numbers_aboves)))] sz) := by
  refine Met.ofW (cc := cX8_kappaOfTwo) (maxL := 3) (ret := (some .long)) (by decide) rfl ?_
  intro p e s m args below meth c s₁ B hml hv
  obtain ⟨rfl, hsz, hP, hK, hD0⟩ := hv
  have hx := B.exec
  have hb := B.bytes
  have hr := B.returns
  have hts := atoms_spec (ws := wsX8_kappaOfTwo) B.pre
  have hta : ∀ w ∈ wA, w.before ([.ref h_t, .int p0, .int p1] : List Value).toArray s = true := hta_of hts
  have hown : s.vm.findClass RX8 = some m.cls := findClass_of_methodNamed B.named
  have hlocks := B.notSynchronized
  subst hsz
  have hD := hD0.self (sz := s.heap.size)
  generalize hAe : va_A [(h_t, .inr (7, [.ref h_t_desk, .ref h_t_imageDesk, .ref h_t_deeds, .ref h_t_numbers, .ref h_t_tape, .ref h_t_reader, .ref h_t_speller, .ref h_t_holders, .int t_imageKept])), (h_t_numbers, .inr (3, [.ref h_t_numbers_keys, .ref h_t_numbers_aboves, .ref h_t_numbers_rounds, .int t_numbers_round, .int t_numbers_size, .int t_numbers_sum, .long t_numbers_gathered])), (h_t_desk, .inr (1, [.int t_desk_genus, .int t_desk_size, .ref h_t_desk_powers, .int t_desk_limit, .long t_desk_tree])), (h_t_desk_powers, .inl (cI, 8, .inl a_t_desk_powers)), (h_t_numbers_keys, .inl (cJ, 1024, .inr (.inl a_t_numbers_keys))), (h_t_numbers_aboves, .inl (cJ, 1024, .inr (.inl a_t_numbers_aboves)))] s.heap.size = A at hD ⊢
  have hA : ∀ q : Nat, s.heap.size ≤ q → A q := fun q h => by rw [← hAe]; exact Or.inr h
  have hS : va_S A s.heap s.heap [] := va_S.rf
  have hl := lv_entry ([.ref h_t, .int p0, .int p1]) (n := 3) (Nat.le_of_ble_eq_true rfl)
  rw [lg_entry_eq]
  generalize (lg_sl ([.ref h_t, .int p0, .int p1]) ++ List.replicate (3 - (lg_sl ([.ref h_t, .int p0, .int p1])).length) Slot.unset).toArray = ls at hl ⊢
  have hl : lv_has ls 3 [(0, .ref h_t), (1, .int p0), (2, .int p1)] := hl
  have h := hF
  unfold F_X8_kappaOfTwo at h
  refine lv_aload_n hx hb dX8_kappaOfTwo_0 rfl (lv_at hl 0 rfl) ?_
  refine lv_iload_n hx hb dX8_kappaOfTwo_1 rfl (lv_at hl 1 rfl) ?_
  refine lv_iload_n hx hb dX8_kappaOfTwo_2 rfl (lv_at hl 2 rfl) ?_
  refine lv_iconst (v := (-1 : Int32)) hx hb dX8_kappaOfTwo_3 (by decide) ?_
  obtain ⟨x1, hx1, h⟩ := bd_e h
  try dsimp only at h
  refine k_VlM (n := 3) (As := [.int p0, .int p1, .int (-1 : Int32)]) (rest := []) hx hb hml hown hts (c_X8_aboveWith l G cI cJ cD cH s.heap.size h_t h_t_numbers h_t_desk h_t_desk_powers h_t_numbers_keys h_t_numbers_aboves h_t_imageDesk h_t_deeds h_t_tape h_t_reader h_t_speller h_t_holders h_t_numbers_rounds t_imageKept t_numbers_round t_numbers_size t_numbers_sum t_numbers_gathered t_desk_genus t_desk_size t_desk_limit t_desk_tree a_t_desk_powers a_t_numbers_keys a_t_numbers_aboves p0 p1 (-1 : Int32) (x1.1) (x1.2.1) (x1.2.2.1) (x1.2.2.2.1) (x1.2.2.2.2.1) (x1.2.2.2.2.2) hx1) gX8_kappaOfTwo_X8_aboveWith rfl rfl rfl (by decide +kernel) ⟨by first | exact Nat.le_of_ble_eq_true rfl | (simp only [headSpec]; omega), by first | exact Nat.le_of_ble_eq_true rfl | (simp only [headSpec]; omega)⟩ hK hP hD hS hA [0, 1, 2, 3, 4, 5] (by decide) rfl rfl (ci := 7) rfl rfl rfl rfl rfl hl.1 (Nat.le_of_ble_eq_true rfl) dX8_kappaOfTwo_4 ⟨Nat.zero_le _, Nat.zero_le _⟩ [(h_t, .inr (7, [.ref h_t_desk, .ref h_t_imageDesk, .ref h_t_deeds, .ref h_t_numbers, .ref h_t_tape, .ref h_t_reader, .ref h_t_speller, .ref h_t_holders, .int t_imageKept])), (h_t_numbers, .inr (3, [.ref h_t_numbers_keys, .ref h_t_numbers_aboves, .ref h_t_numbers_rounds, .int t_numbers_round, .int (x1.2.2.2.1), .int (x1.2.2.2.2.1), .long (x1.2.2.2.2.2)])), (h_t_desk, .inr (1, [.int t_desk_genus, .int t_desk_size, .ref h_t_desk_powers, .int t_desk_limit, .long t_desk_tree])), (h_t_desk_powers, .inl (cI, 8, .inl a_t_desk_powers)), (h_t_numbers_keys, .inl (cJ, 1024, .inr (.inl (x1.2.1)))), (h_t_numbers_aboves, .inl (cJ, 1024, .inr (.inl (x1.2.2.1))))] [1, 2, 3, 4, 5, 6] 6 (by decide +kernel) rfl rfl rfl (fun hp1 H locs hP hD hS => ?_)
  refine lv_aload_n hx hb dX8_kappaOfTwo_7 rfl (lv_at hl 0 rfl) ?_
  refine lv_iload_n hx hb dX8_kappaOfTwo_8 rfl (lv_at hl 1 rfl) ?_
  refine lv_iload_n hx hb dX8_kappaOfTwo_9 rfl (lv_at hl 2 rfl) ?_
  refine lv_iadd hx hb dX8_kappaOfTwo_10 ?_
  refine lv_iconst (v := (-1 : Int32)) hx hb dX8_kappaOfTwo_11 (by decide) ?_
  refine lv_iconst (v := (-1 : Int32)) hx hb dX8_kappaOfTwo_12 (by decide) ?_
  obtain ⟨x2, hx2, h⟩ := bd_e h
  try dsimp only at h
  refine k_VlM (n := 3) (As := [.int (p0 + p1), .int (-1 : Int32), .int (-1 : Int32)]) (rest := [.long (x1.1)]) hx hb hml hown hts (c_X8_aboveWith l G cI cJ cD cH H.size h_t h_t_numbers h_t_desk h_t_desk_powers h_t_numbers_keys h_t_numbers_aboves h_t_imageDesk h_t_deeds h_t_tape h_t_reader h_t_speller h_t_holders h_t_numbers_rounds t_imageKept t_numbers_round (x1.2.2.2.1) (x1.2.2.2.2.1) (x1.2.2.2.2.2) t_desk_genus t_desk_size t_desk_limit t_desk_tree a_t_desk_powers (x1.2.1) (x1.2.2.1) (p0 + p1) (-1 : Int32) (-1 : Int32) (x2.1) (x2.2.1) (x2.2.2.1) (x2.2.2.2.1) (x2.2.2.2.2.1) (x2.2.2.2.2.2) hx2) gX8_kappaOfTwo_X8_aboveWith rfl rfl rfl (by decide +kernel) ⟨by first | exact Nat.le_of_ble_eq_true rfl | (simp only [headSpec]; omega), by first | exact Nat.le_of_ble_eq_true rfl | (simp only [headSpec]; omega)⟩ hK hP hD hS hA [0, 1, 2, 3, 4, 5] (by decide) rfl rfl (ci := 7) rfl rfl rfl rfl rfl hl.1 (Nat.le_of_ble_eq_true rfl) dX8_kappaOfTwo_13 ⟨Nat.zero_le _, Nat.zero_le _⟩ [(h_t, .inr (7, [.ref h_t_desk, .ref h_t_imageDesk, .ref h_t_deeds, .ref h_t_numbers, .ref h_t_tape, .ref h_t_reader, .ref h_t_speller, .ref h_t_holders, .int t_imageKept])), (h_t_numbers, .inr (3, [.ref h_t_numbers_keys, .ref h_t_numbers_aboves, .ref h_t_numbers_rounds, .int t_numbers_round, .int (x2.2.2.2.1), .int (x2.2.2.2.2.1), .long (x2.2.2.2.2.2)])), (h_t_desk, .inr (1, [.int t_desk_genus, .int t_desk_size, .ref h_t_desk_powers, .int t_desk_limit, .long t_desk_tree])), (h_t_desk_powers, .inl (cI, 8, .inl a_t_desk_powers)), (h_t_numbers_keys, .inl (cJ, 1024, .inr (.inl (x2.2.1)))), (h_t_numbers_aboves, .inl (cJ, 1024, .inr (.inl (x2.2.2.1))))] [1, 2, 3, 4, 5, 6] 6 (by decide +kernel) rfl rfl rfl (fun hp2 H locs hP hD hS => ?_)
  refine lv_lsub hx hb dX8_kappaOfTwo_16 ?_
  have h9 := Option.some.inj h
  have e9 : ((x1.1) - (x2.1)) = r0 := congrArg (fun z9 => z9.1) h9
  rw [← e9]
  have e9 : (x2.2.1) = w0 := congrArg (fun z9 => z9.2.1) h9
  rw [← e9]
  have e9 : (x2.2.2.1) = w1 := congrArg (fun z9 => z9.2.2.1) h9
  rw [← e9]
  have e9 : (x2.2.2.2.1) = w2 := congrArg (fun z9 => z9.2.2.2.1) h9
  rw [← e9]
  have e9 : (x2.2.2.2.2.1) = w3 := congrArg (fun z9 => z9.2.2.2.2.1) h9
  rw [← e9]
  have e9 : (x2.2.2.2.2.2) = w4 := congrArg (fun z9 => z9.2.2.2.2.2) h9
  rw [← e9]
  exact k_lret hx hb hr hlocks hP hS rfl dX8_kappaOfTwo_17

/-! X8_kappaOfThree -/
set_option maxHeartbeats 4000000 in
set_option maxRecDepth 100000 in
theorem c_X8_kappaOfThree (l : Launch) (G : va_G) (cI cJ cD cH : ClassId) (sz : Nat) (h_t : Nat) (h_t_numbers : Nat) (h_t_desk : Nat) (h_t_desk_powers : Nat) (h_t_numbers_keys : Nat) (h_t_numbers_aboves : Nat) (h_t_imageDesk : Nat) (h_t_deeds : Nat) (h_t_tape : Nat) (h_t_reader : Nat) (h_t_speller : Nat) (h_t_holders : Nat) (h_t_numbers_rounds : Nat) (t_imageKept : Int32) (t_numbers_round : Int32) (t_numbers_size : Int32) (t_numbers_sum : Int32) (t_numbers_gathered : Int64) (t_desk_genus : Int32) (t_desk_size : Int32) (t_desk_limit : Int32) (t_desk_tree : Int64) (a_t_desk_powers : Nat → Int32) (a_t_numbers_keys : Nat → Int64) (a_t_numbers_aboves : Nat → Int64) (p0 : Int32) (p1 : Int32) (p2 : Int32) (r0 : Int64) (w0 : Nat → Int64) (w1 : Nat → Int64) (w2 : Int32) (w3 : Int32) (w4 : Int64) (hF : F_X8_kappaOfThree t_desk_genus t_desk_size a_t_desk_powers a_t_numbers_keys a_t_numbers_aboves p0 p1 p2 = some (r0, w0, w1, w2, w3, w4)) : Met l yX8_kappaOfThree wsX8_kappaOfThree ({ frames := 26, cells := 0, slots := 0, locals := 746 }) (k_pre G (k_T cI cJ cD cH) [(h_t, .inr (7, [.ref h_t_desk, .ref h_t_imageDesk, .ref h_t_deeds, .ref h_t_numbers, .ref h_t_tape, .ref h_t_reader, .ref h_t_speller, .ref h_t_holders, .int t_imageKept])), (h_t_numbers, .inr (3, [.ref h_t_numbers_keys, .ref h_t_numbers_aboves, .ref h_t_numbers_rounds, .int t_numbers_round, .int t_numbers_size, .int t_numbers_sum, .long t_numbers_gathered])), (h_t_desk, .inr (1, [.int t_desk_genus, .int t_desk_size, .ref h_t_desk_powers, .int t_desk_limit, .long t_desk_tree])), (h_t_desk_powers, .inl (cI, 8, .inl a_t_desk_powers)), (h_t_numbers_keys, .inl (cJ, 1024, .inr (.inl a_t_numbers_keys))), (h_t_numbers_aboves, .inl (cJ, 1024, .inr (.inl a_t_numbers_aboves)))] sz [.ref h_t, .int p0, .int p1, .int p2]) (va_Ql (fun r (_ : Unit) => r = r0 ∧ True) (fun _ t => va_P G vwCl [(h_t, .inr (7, [.ref h_t_desk, .ref h_t_imageDesk, .ref h_t_deeds, .ref h_t_numbers, .ref h_t_tape, .ref h_t_reader, .ref h_t_speller, .ref h_t_holders, .int t_imageKept])), (h_t_numbers, .inr (3, [.ref h_t_numbers_keys, .ref h_t_numbers_aboves, .ref h_t_numbers_rounds, .int t_numbers_round, .int w2, .int w3, .long w4])), (h_t_desk, .inr (1, [.int t_desk_genus, .int t_desk_size, .ref h_t_desk_powers, .int t_desk_limit, .long t_desk_tree])), (h_t_desk_powers, .inl (cI, 8, .inl a_t_desk_powers)), (h_t_numbers_keys, .inl (cJ, 1024, .inr (.inl w0))), (h_t_numbers_aboves, .inl (cJ, 1024, .inr (.inl w1)))] t.heap) (va_A [(h_t, .inr (7, [.ref h_t_desk, .ref h_t_imageDesk, .ref h_t_deeds, .ref h_t_numbers, .ref h_t_tape, .ref h_t_reader, .ref h_t_speller, .ref h_t_holders, .int t_imageKept])), (h_t_numbers, .inr (3, [.ref h_t_numbers_keys, .ref h_t_numbers_aboves, .ref h_t_numbers_rounds, .int t_numbers_round, .int t_numbers_size, .int t_numbers_sum, .long t_numbers_gathered])), (h_t_desk, .inr (1, [.int t_desk_genus, .int t_desk_size, .ref h_t_desk_powers, .int t_desk_limit, .long t_desk_tree])), (h_t_desk_powers, .inl (cI, 8, .inl a_t_desk_powers)), (h_t_numbers_keys, .inl (cJ, 1024, .inr (.inl a_t_numbers_keys))), (h_t_numbers_aboves, .inl (cJ, 1024, .inr (.inl a_t_numbers_aboves)))] sz)) 0 0 (va_A [(h_t, .inr (7, [.ref h_t_desk, .ref h_t_imageDesk, .ref h_t_deeds, .ref h_t_numbers, .ref h_t_tape, .ref h_t_reader, .ref h_t_speller, .ref h_t_holders, .int t_imageKept])), (h_t_numbers, .inr (3, [.ref h_t_numbers_keys, .ref h_t_numbers_aboves, .ref h_t_numbers_rounds, .int t_numbers_round, .int t_numbers_size, .int t_numbers_sum, .long t_numbers_gathered])), (h_t_desk, .inr (1, [.int t_desk_genus, .int t_desk_size, .ref h_t_desk_powers, .int t_desk_limit, .long t_desk_tree])), (h_t_desk_powers, .inl (cI, 8, .inl a_t_desk_powers)), (h_t_numbers_keys, .inl (cJ, 1024, .inr (.inl a_t_numbers_keys))), (h_t_numbers_aboves, .inl (cJ, 1024, .inr (.inl a_t_numbers_aboves)))] sz) := by
  refine Met.ofW (cc := cX8_kappaOfThree) (maxL := 4) (ret := (some .long)) (by decide) rfl ?_
  intro p e s m args below meth c s₁ B hml hv
  obtain ⟨rfl, hsz, hP, hK, hD0⟩ := hv
  have hx := B.exec
  have hb := B.bytes
  have hr := B.returns
  have hts := atoms_spec (ws := wsX8_kappaOfThree) B.pre
  have hta : ∀ w ∈ wA, w.before ([.ref h_t, .int p0, .int p1, .int p2] : List Value).toArray s = true := hta_of hts
  have hown : s.vm.findClass RX8 = some m.cls := findClass_of_methodNamed B.named
  have hlocks := B.notSynchronized
  subst hsz
  have hD := hD0.self (sz := s.heap.size)
  generalize hAe : va_A [(h_t, .inr (7, [.ref h_t_desk, .ref h_t_imageDesk, .ref h_t_deeds, .ref h_t_numbers, .ref h_t_tape, .ref h_t_reader, .ref h_t_speller, .ref h_t_holders, .int t_imageKept])), (h_t_numbers, .inr (3, [.ref h_t_numbers_keys, .ref h_t_numbers_aboves, .ref h_t_numbers_rounds, .int t_numbers_round, .int t_numbers_size, .int t_numbers_sum, .long t_numbers_gathered])), (h_t_desk, .inr (1, [.int t_desk_genus, .int t_desk_size, .ref h_t_desk_powers, .int t_desk_limit, .long t_desk_tree])), (h_t_desk_powers, .inl (cI, 8, .inl a_t_desk_powers)), (h_t_numbers_keys, .inl (cJ, 1024, .inr (.inl a_t_numbers_keys))), (h_t_numbers_aboves, .inl (cJ, 1024, .inr (.inl a_t_numbers_aboves)))] s.heap.size = A at hD ⊢
  have hA : ∀ q : Nat, s.heap.size ≤ q → A q := fun q h => by rw [← hAe]; exact Or.inr h
  have hS : va_S A s.heap s.heap [] := va_S.rf
  have hl := lv_entry ([.ref h_t, .int p0, .int p1, .int p2]) (n := 4) (Nat.le_of_ble_eq_true rfl)
  rw [lg_entry_eq]
  generalize (lg_sl ([.ref h_t, .int p0, .int p1, .int p2]) ++ List.replicate (4 - (lg_sl ([.ref h_t, .int p0, .int p1, .int p2])).length) Slot.unset).toArray = ls at hl ⊢
  have hl : lv_has ls 4 [(0, .ref h_t), (1, .int p0), (2, .int p1), (3, .int p2)] := hl
  have h := hF
  unfold F_X8_kappaOfThree at h
  refine lv_aload_n hx hb dX8_kappaOfThree_0 rfl (lv_at hl 0 rfl) ?_
  refine lv_iload_n hx hb dX8_kappaOfThree_1 rfl (lv_at hl 1 rfl) ?_
  refine lv_iload_n hx hb dX8_kappaOfThree_2 rfl (lv_at hl 2 rfl) ?_
  refine lv_iload_n hx hb dX8_kappaOfThree_3 rfl (lv_at hl 3 rfl) ?_
  obtain ⟨x1, hx1, h⟩ := bd_e h
  try dsimp only at h
  refine k_VlM (n := 3) (As := [.int p0, .int p1, .int p2]) (rest := []) hx hb hml hown hts (c_X8_aboveWith l G cI cJ cD cH s.heap.size h_t h_t_numbers h_t_desk h_t_desk_powers h_t_numbers_keys h_t_numbers_aboves h_t_imageDesk h_t_deeds h_t_tape h_t_reader h_t_speller h_t_holders h_t_numbers_rounds t_imageKept t_numbers_round t_numbers_size t_numbers_sum t_numbers_gathered t_desk_genus t_desk_size t_desk_limit t_desk_tree a_t_desk_powers a_t_numbers_keys a_t_numbers_aboves p0 p1 p2 (x1.1) (x1.2.1) (x1.2.2.1) (x1.2.2.2.1) (x1.2.2.2.2.1) (x1.2.2.2.2.2) hx1) gX8_kappaOfThree_X8_aboveWith rfl rfl rfl (by decide +kernel) ⟨by first | exact Nat.le_of_ble_eq_true rfl | (simp only [headSpec]; omega), by first | exact Nat.le_of_ble_eq_true rfl | (simp only [headSpec]; omega)⟩ hK hP hD hS hA [0, 1, 2, 3, 4, 5] (by decide) rfl rfl (ci := 7) rfl rfl rfl rfl rfl hl.1 (Nat.le_of_ble_eq_true rfl) dX8_kappaOfThree_4 ⟨Nat.zero_le _, Nat.zero_le _⟩ [(h_t, .inr (7, [.ref h_t_desk, .ref h_t_imageDesk, .ref h_t_deeds, .ref h_t_numbers, .ref h_t_tape, .ref h_t_reader, .ref h_t_speller, .ref h_t_holders, .int t_imageKept])), (h_t_numbers, .inr (3, [.ref h_t_numbers_keys, .ref h_t_numbers_aboves, .ref h_t_numbers_rounds, .int t_numbers_round, .int (x1.2.2.2.1), .int (x1.2.2.2.2.1), .long (x1.2.2.2.2.2)])), (h_t_desk, .inr (1, [.int t_desk_genus, .int t_desk_size, .ref h_t_desk_powers, .int t_desk_limit, .long t_desk_tree])), (h_t_desk_powers, .inl (cI, 8, .inl a_t_desk_powers)), (h_t_numbers_keys, .inl (cJ, 1024, .inr (.inl (x1.2.1)))), (h_t_numbers_aboves, .inl (cJ, 1024, .inr (.inl (x1.2.2.1))))] [1, 2, 3, 4, 5, 6] 6 (by decide +kernel) rfl rfl rfl (fun hp1 H locs hP hD hS => ?_)
  refine lv_aload_n hx hb dX8_kappaOfThree_7 rfl (lv_at hl 0 rfl) ?_
  refine lv_iload_n hx hb dX8_kappaOfThree_8 rfl (lv_at hl 1 rfl) ?_
  refine lv_iload_n hx hb dX8_kappaOfThree_9 rfl (lv_at hl 2 rfl) ?_
  refine lv_iadd hx hb dX8_kappaOfThree_10 ?_
  refine lv_iload_n hx hb dX8_kappaOfThree_11 rfl (lv_at hl 3 rfl) ?_
  obtain ⟨x2, hx2, h⟩ := bd_e h
  try dsimp only at h
  refine k_VlM (n := 2) (As := [.int (p0 + p1), .int p2]) (rest := [.long (x1.1)]) hx hb hml hown hts (c_X8_kappaOfTwo l G cI cJ cD cH H.size h_t h_t_numbers h_t_desk h_t_desk_powers h_t_numbers_keys h_t_numbers_aboves h_t_imageDesk h_t_deeds h_t_tape h_t_reader h_t_speller h_t_holders h_t_numbers_rounds t_imageKept t_numbers_round (x1.2.2.2.1) (x1.2.2.2.2.1) (x1.2.2.2.2.2) t_desk_genus t_desk_size t_desk_limit t_desk_tree a_t_desk_powers (x1.2.1) (x1.2.2.1) (p0 + p1) p2 (x2.1) (x2.2.1) (x2.2.2.1) (x2.2.2.2.1) (x2.2.2.2.2.1) (x2.2.2.2.2.2) hx2) gX8_kappaOfThree_X8_kappaOfTwo rfl rfl rfl (by decide +kernel) ⟨by first | exact Nat.le_of_ble_eq_true rfl | (simp only [headSpec]; omega), by first | exact Nat.le_of_ble_eq_true rfl | (simp only [headSpec]; omega)⟩ hK hP hD hS hA [0, 1, 2, 3, 4, 5] (by decide) rfl rfl (ci := 7) rfl rfl rfl rfl rfl hl.1 (Nat.le_of_ble_eq_true rfl) dX8_kappaOfThree_12 ⟨Nat.zero_le _, Nat.zero_le _⟩ [(h_t, .inr (7, [.ref h_t_desk, .ref h_t_imageDesk, .ref h_t_deeds, .ref h_t_numbers, .ref h_t_tape, .ref h_t_reader, .ref h_t_speller, .ref h_t_holders, .int t_imageKept])), (h_t_numbers, .inr (3, [.ref h_t_numbers_keys, .ref h_t_numbers_aboves, .ref h_t_numbers_rounds, .int t_numbers_round, .int (x2.2.2.2.1), .int (x2.2.2.2.2.1), .long (x2.2.2.2.2.2)])), (h_t_desk, .inr (1, [.int t_desk_genus, .int t_desk_size, .ref h_t_desk_powers, .int t_desk_limit, .long t_desk_tree])), (h_t_desk_powers, .inl (cI, 8, .inl a_t_desk_powers)), (h_t_numbers_keys, .inl (cJ, 1024, .inr (.inl (x2.2.1)))), (h_t_numbers_aboves, .inl (cJ, 1024, .inr (.inl (x2.2.2.1))))] [1, 2, 3, 4, 5, 6] 6 (by decide +kernel) rfl rfl rfl (fun hp2 H locs hP hD hS => ?_)
  refine lv_lsub hx hb dX8_kappaOfThree_15 ?_
  refine lv_aload_n hx hb dX8_kappaOfThree_16 rfl (lv_at hl 0 rfl) ?_
  refine lv_iload_n hx hb dX8_kappaOfThree_17 rfl (lv_at hl 1 rfl) ?_
  refine lv_iload_n hx hb dX8_kappaOfThree_18 rfl (lv_at hl 3 rfl) ?_
  refine lv_iadd hx hb dX8_kappaOfThree_19 ?_
  refine lv_iload_n hx hb dX8_kappaOfThree_20 rfl (lv_at hl 2 rfl) ?_
  obtain ⟨x3, hx3, h⟩ := bd_e h
  try dsimp only at h
  refine k_VlM (n := 2) (As := [.int (p0 + p2), .int p1]) (rest := [.long ((x1.1) - (x2.1))]) hx hb hml hown hts (c_X8_kappaOfTwo l G cI cJ cD cH H.size h_t h_t_numbers h_t_desk h_t_desk_powers h_t_numbers_keys h_t_numbers_aboves h_t_imageDesk h_t_deeds h_t_tape h_t_reader h_t_speller h_t_holders h_t_numbers_rounds t_imageKept t_numbers_round (x2.2.2.2.1) (x2.2.2.2.2.1) (x2.2.2.2.2.2) t_desk_genus t_desk_size t_desk_limit t_desk_tree a_t_desk_powers (x2.2.1) (x2.2.2.1) (p0 + p2) p1 (x3.1) (x3.2.1) (x3.2.2.1) (x3.2.2.2.1) (x3.2.2.2.2.1) (x3.2.2.2.2.2) hx3) gX8_kappaOfThree_X8_kappaOfTwo rfl rfl rfl (by decide +kernel) ⟨by first | exact Nat.le_of_ble_eq_true rfl | (simp only [headSpec]; omega), by first | exact Nat.le_of_ble_eq_true rfl | (simp only [headSpec]; omega)⟩ hK hP hD hS hA [0, 1, 2, 3, 4, 5] (by decide) rfl rfl (ci := 7) rfl rfl rfl rfl rfl hl.1 (Nat.le_of_ble_eq_true rfl) dX8_kappaOfThree_21 ⟨Nat.zero_le _, Nat.zero_le _⟩ [(h_t, .inr (7, [.ref h_t_desk, .ref h_t_imageDesk, .ref h_t_deeds, .ref h_t_numbers, .ref h_t_tape, .ref h_t_reader, .ref h_t_speller, .ref h_t_holders, .int t_imageKept])), (h_t_numbers, .inr (3, [.ref h_t_numbers_keys, .ref h_t_numbers_aboves, .ref h_t_numbers_rounds, .int t_numbers_round, .int (x3.2.2.2.1), .int (x3.2.2.2.2.1), .long (x3.2.2.2.2.2)])), (h_t_desk, .inr (1, [.int t_desk_genus, .int t_desk_size, .ref h_t_desk_powers, .int t_desk_limit, .long t_desk_tree])), (h_t_desk_powers, .inl (cI, 8, .inl a_t_desk_powers)), (h_t_numbers_keys, .inl (cJ, 1024, .inr (.inl (x3.2.1)))), (h_t_numbers_aboves, .inl (cJ, 1024, .inr (.inl (x3.2.2.1))))] [1, 2, 3, 4, 5, 6] 6 (by decide +kernel) rfl rfl rfl (fun hp3 H locs hP hD hS => ?_)
  refine lv_lsub hx hb dX8_kappaOfThree_24 ?_
  refine lv_aload_n hx hb dX8_kappaOfThree_25 rfl (lv_at hl 0 rfl) ?_
  refine lv_iload_n hx hb dX8_kappaOfThree_26 rfl (lv_at hl 2 rfl) ?_
  refine lv_iload_n hx hb dX8_kappaOfThree_27 rfl (lv_at hl 3 rfl) ?_
  refine lv_iadd hx hb dX8_kappaOfThree_28 ?_
  refine lv_iload_n hx hb dX8_kappaOfThree_29 rfl (lv_at hl 1 rfl) ?_
  obtain ⟨x4, hx4, h⟩ := bd_e h
  try dsimp only at h
  refine k_VlM (n := 2) (As := [.int (p1 + p2), .int p0]) (rest := [.long (((x1.1) - (x2.1)) - (x3.1))]) hx hb hml hown hts (c_X8_kappaOfTwo l G cI cJ cD cH H.size h_t h_t_numbers h_t_desk h_t_desk_powers h_t_numbers_keys h_t_numbers_aboves h_t_imageDesk h_t_deeds h_t_tape h_t_reader h_t_speller h_t_holders h_t_numbers_rounds t_imageKept t_numbers_round (x3.2.2.2.1) (x3.2.2.2.2.1) (x3.2.2.2.2.2) t_desk_genus t_desk_size t_desk_limit t_desk_tree a_t_desk_powers (x3.2.1) (x3.2.2.1) (p1 + p2) p0 (x4.1) (x4.2.1) (x4.2.2.1) (x4.2.2.2.1) (x4.2.2.2.2.1) (x4.2.2.2.2.2) hx4) gX8_kappaOfThree_X8_kappaOfTwo rfl rfl rfl (by decide +kernel) ⟨by first | exact Nat.le_of_ble_eq_true rfl | (simp only [headSpec]; omega), by first | exact Nat.le_of_ble_eq_true rfl | (simp only [headSpec]; omega)⟩ hK hP hD hS hA [0, 1, 2, 3, 4, 5] (by decide) rfl rfl (ci := 7) rfl rfl rfl rfl rfl hl.1 (Nat.le_of_ble_eq_true rfl) dX8_kappaOfThree_30 ⟨Nat.zero_le _, Nat.zero_le _⟩ [(h_t, .inr (7, [.ref h_t_desk, .ref h_t_imageDesk, .ref h_t_deeds, .ref h_t_numbers, .ref h_t_tape, .ref h_t_reader, .ref h_t_speller, .ref h_t_holders, .int t_imageKept])), (h_t_numbers, .inr (3, [.ref h_t_numbers_keys, .ref h_t_numbers_aboves, .ref h_t_numbers_rounds, .int t_numbers_round, .int (x4.2.2.2.1), .int (x4.2.2.2.2.1), .long (x4.2.2.2.2.2)])), (h_t_desk, .inr (1, [.int t_desk_genus, .int t_desk_size, .ref h_t_desk_powers, .int t_desk_limit, .long t_desk_tree])), (h_t_desk_powers, .inl (cI, 8, .inl a_t_desk_powers)), (h_t_numbers_keys, .inl (cJ, 1024, .inr (.inl (x4.2.1)))), (h_t_numbers_aboves, .inl (cJ, 1024, .inr (.inl (x4.2.2.1))))] [1, 2, 3, 4, 5, 6] 6 (by decide +kernel) rfl rfl rfl (fun hp4 H locs hP hD hS => ?_)
  refine lv_lsub hx hb dX8_kappaOfThree_33 ?_
  refine lv_ldc2 (v := (2 : Int64)) hx hb hown (hta _ mw_473) dX8_kappaOfThree_34 ?_
  refine lv_aload_n hx hb dX8_kappaOfThree_37 rfl (lv_at hl 0 rfl) ?_
  refine lv_iload_n hx hb dX8_kappaOfThree_38 rfl (lv_at hl 1 rfl) ?_
  refine lv_iload_n hx hb dX8_kappaOfThree_39 rfl (lv_at hl 2 rfl) ?_
  refine lv_iadd hx hb dX8_kappaOfThree_40 ?_
  refine lv_iload_n hx hb dX8_kappaOfThree_41 rfl (lv_at hl 3 rfl) ?_
  refine lv_iadd hx hb dX8_kappaOfThree_42 ?_
  refine lv_iconst (v := (-1 : Int32)) hx hb dX8_kappaOfThree_43 (by decide) ?_
  refine lv_iconst (v := (-1 : Int32)) hx hb dX8_kappaOfThree_44 (by decide) ?_
  obtain ⟨x5, hx5, h⟩ := bd_e h
  try dsimp only at h
  refine k_VlM (n := 3) (As := [.int ((p0 + p1) + p2), .int (-1 : Int32), .int (-1 : Int32)]) (rest := [.long (2 : Int64), .long ((((x1.1) - (x2.1)) - (x3.1)) - (x4.1))]) hx hb hml hown hts (c_X8_aboveWith l G cI cJ cD cH H.size h_t h_t_numbers h_t_desk h_t_desk_powers h_t_numbers_keys h_t_numbers_aboves h_t_imageDesk h_t_deeds h_t_tape h_t_reader h_t_speller h_t_holders h_t_numbers_rounds t_imageKept t_numbers_round (x4.2.2.2.1) (x4.2.2.2.2.1) (x4.2.2.2.2.2) t_desk_genus t_desk_size t_desk_limit t_desk_tree a_t_desk_powers (x4.2.1) (x4.2.2.1) ((p0 + p1) + p2) (-1 : Int32) (-1 : Int32) (x5.1) (x5.2.1) (x5.2.2.1) (x5.2.2.2.1) (x5.2.2.2.2.1) (x5.2.2.2.2.2) hx5) gX8_kappaOfThree_X8_aboveWith rfl rfl rfl (by decide +kernel) ⟨by first | exact Nat.le_of_ble_eq_true rfl | (simp only [headSpec]; omega), by first | exact Nat.le_of_ble_eq_true rfl | (simp only [headSpec]; omega)⟩ hK hP hD hS hA [0, 1, 2, 3, 4, 5] (by decide) rfl rfl (ci := 7) rfl rfl rfl rfl rfl hl.1 (Nat.le_of_ble_eq_true rfl) dX8_kappaOfThree_45 ⟨Nat.zero_le _, Nat.zero_le _⟩ [(h_t, .inr (7, [.ref h_t_desk, .ref h_t_imageDesk, .ref h_t_deeds, .ref h_t_numbers, .ref h_t_tape, .ref h_t_reader, .ref h_t_speller, .ref h_t_holders, .int t_imageKept])), (h_t_numbers, .inr (3, [.ref h_t_numbers_keys, .ref h_t_numbers_aboves, .ref h_t_numbers_rounds, .int t_numbers_round, .int (x5.2.2.2.1), .int (x5.2.2.2.2.1), .long (x5.2.2.2.2.2)])), (h_t_desk, .inr (1, [.int t_desk_genus, .int t_desk_size, .ref h_t_desk_powers, .int t_desk_limit, .long t_desk_tree])), (h_t_desk_powers, .inl (cI, 8, .inl a_t_desk_powers)), (h_t_numbers_keys, .inl (cJ, 1024, .inr (.inl (x5.2.1)))), (h_t_numbers_aboves, .inl (cJ, 1024, .inr (.inl (x5.2.2.1))))] [1, 2, 3, 4, 5, 6] 6 (by decide +kernel) rfl rfl rfl (fun hp5 H locs hP hD hS => ?_)
  refine lv_lmul hx hb dX8_kappaOfThree_48 ?_
  refine lv_lsub hx hb dX8_kappaOfThree_49 ?_
  have h9 := Option.some.inj h
  have e9 : (((((x1.1) - (x2.1)) - (x3.1)) - (x4.1)) - ((2 : Int64) * (x5.1))) = r0 := congrArg (fun z9 => z9.1) h9
  rw [← e9]
  have e9 : (x5.2.1) = w0 := congrArg (fun z9 => z9.2.1) h9
  rw [← e9]
  have e9 : (x5.2.2.1) = w1 := congrArg (fun z9 => z9.2.2.1) h9
  rw [← e9]
  have e9 : (x5.2.2.2.1) = w2 := congrArg (fun z9 => z9.2.2.2.1) h9
  rw [← e9]
  have e9 : (x5.2.2.2.2.1) = w3 := congrArg (fun z9 => z9.2.2.2.2.1) h9
  rw [← e9]
  have e9 : (x5.2.2.2.2.2) = w4 := congrArg (fun z9 => z9.2.2.2.2.2) h9
  rw [← e9]
  exact k_lret hx hb hr hlocks hP hS rfl dX8_kappaOfThree_50

/-! X8_kappa -/
set_option maxHeartbeats 4000000 in
set_option maxRecDepth 100000 in
theorem tJ_X8_kappa_99 {l : Launch} {G : va_G} {cI cJ cD cH : ClassId} {h_t : Nat} {h_t_numbers : Nat} {h_t_desk : Nat} {h_t_desk_powers : Nat} {h_t_numbers_keys : Nat} {h_t_numbers_aboves : Nat} {h_t_imageDesk : Nat} {h_t_deeds : Nat} {h_t_tape : Nat} {h_t_reader : Nat} {h_t_speller : Nat} {h_t_holders : Nat} {h_t_numbers_rounds : Nat} {t_imageKept : Int32} {t_numbers_round : Int32} {t_desk_genus : Int32} {t_desk_size : Int32} {t_desk_limit : Int32} {t_desk_tree : Int64} {a_t_desk_powers : Nat → Int32} {p0 : Int32} {p1 : Int32} {p2 : Int32} {p3 : Int32} {r0 : Int64} {w0 : Nat → Int64} {w1 : Nat → Int64} {w2 : Int32} {w3 : Int32} {w4 : Int64} {p : Program} {e : Env} {s : State} {m : MethodId} {below : List Frame} {meth : Method} {c : Code} {A : Nat → Prop} (hx : p.tables.exec = Jvm.exec) (hb : c.code = cX8_kappa) (hr : meth.sig.returnType = (some .long)) (hml : c.maxLocals = 7) (hts : ∀ w ∈ wsX8_kappa, w.before ([.ref h_t, .int p0, .int p1, .int p2, .int p3] : List Value).toArray s = true) (hown : s.vm.findClass RX8 = some m.cls) (hlocks : meth.locks = false) (hK : va_K G vwCl (k_T cI cJ cD cH) s) (hA : ∀ q : Nat, s.heap.size ≤ q → A q) : ∀  (vJ99_0 : Nat → Int64) (vJ99_1 : Nat → Int64) (vJ99_2 : Int32) (vJ99_3 : Int32) (vJ99_4 : Int64) (vJ99_5 : Int64) (H : Heap) (locs : List Loc) (ls : Array Slot), va_P G vwCl [(h_t, .inr (7, [.ref h_t_desk, .ref h_t_imageDesk, .ref h_t_deeds, .ref h_t_numbers, .ref h_t_tape, .ref h_t_reader, .ref h_t_speller, .ref h_t_holders, .int t_imageKept])), (h_t_numbers, .inr (3, [.ref h_t_numbers_keys, .ref h_t_numbers_aboves, .ref h_t_numbers_rounds, .int t_numbers_round, .int vJ99_2, .int vJ99_3, .long vJ99_4])), (h_t_desk, .inr (1, [.int t_desk_genus, .int t_desk_size, .ref h_t_desk_powers, .int t_desk_limit, .long t_desk_tree])), (h_t_desk_powers, .inl (cI, 8, .inl a_t_desk_powers)), (h_t_numbers_keys, .inl (cJ, 1024, .inr (.inl vJ99_0))), (h_t_numbers_aboves, .inl (cJ, 1024, .inr (.inl vJ99_1)))] H → va_D A [(h_t, .inr (7, [.ref h_t_desk, .ref h_t_imageDesk, .ref h_t_deeds, .ref h_t_numbers, .ref h_t_tape, .ref h_t_reader, .ref h_t_speller, .ref h_t_holders, .int t_imageKept])), (h_t_numbers, .inr (3, [.ref h_t_numbers_keys, .ref h_t_numbers_aboves, .ref h_t_numbers_rounds, .int t_numbers_round, .int vJ99_2, .int vJ99_3, .long vJ99_4])), (h_t_desk, .inr (1, [.int t_desk_genus, .int t_desk_size, .ref h_t_desk_powers, .int t_desk_limit, .long t_desk_tree])), (h_t_desk_powers, .inl (cI, 8, .inl a_t_desk_powers)), (h_t_numbers_keys, .inl (cJ, 1024, .inr (.inl vJ99_0))), (h_t_numbers_aboves, .inl (cJ, 1024, .inr (.inl vJ99_1)))] → va_S A s.heap H locs → lv_has ls 7 [(0, .ref h_t), (4, .int p3), (5, .long vJ99_5)] → J_X8_kappa_99 t_desk_genus p3 vJ99_0 vJ99_1 vJ99_2 vJ99_3 vJ99_4 vJ99_5 = some (r0, w0, w1, w2, w3, w4) → W p l e (headSpec wsX8_kappa ({ frames := 27, cells := 0, slots := 0, locals := 769 })).room s m ([.ref h_t, .int p0, .int p1, .int p2, .int p3] : List Value).toArray below meth c H locs 0 0 (MQ below (va_Ql (fun r (_ : Unit) => r = r0 ∧ True) (fun _ t => va_P G vwCl [(h_t, .inr (7, [.ref h_t_desk, .ref h_t_imageDesk, .ref h_t_deeds, .ref h_t_numbers, .ref h_t_tape, .ref h_t_reader, .ref h_t_speller, .ref h_t_holders, .int t_imageKept])), (h_t_numbers, .inr (3, [.ref h_t_numbers_keys, .ref h_t_numbers_aboves, .ref h_t_numbers_rounds, .int t_numbers_round, .int w2, .int w3, .long w4])), (h_t_desk, .inr (1, [.int t_desk_genus, .int t_desk_size, .ref h_t_desk_powers, .int t_desk_limit, .long t_desk_tree])), (h_t_desk_powers, .inl (cI, 8, .inl a_t_desk_powers)), (h_t_numbers_keys, .inl (cJ, 1024, .inr (.inl w0))), (h_t_numbers_aboves, .inl (cJ, 1024, .inr (.inl w1)))] t.heap) A) ([.ref h_t, .int p0, .int p1, .int p2, .int p3] : List Value).toArray s 0 0 A) (F0 m 99 ls []) := by
  have hta : ∀ w ∈ wA, w.before ([.ref h_t, .int p0, .int p1, .int p2, .int p3] : List Value).toArray s = true := hta_of hts
  have hinX1 : ∀ w ∈ wsX10, w ∈ wsX8_kappa := hin_of in_X1
  have hinX8 : ∀ w ∈ wsX80, w ∈ wsX8_kappa := hin_of in_X8
  intro vJ99_0 vJ99_1 vJ99_2 vJ99_3 vJ99_4 vJ99_5 H locs ls hP hD hS hl h
  unfold J_X8_kappa_99 at h
  refine lv_lload hx hb dX8_kappa_99 (lv_at hl 2 rfl) ?_
  refine lv_aload_n hx hb dX8_kappa_101 rfl (lv_at hl 0 rfl) ?_
  refine va_get (D := G) (ci := 7) (v := .ref h_t_desk) (C := RX8) (T := TX8) (N := 9) hx hb hts hinX8 hown hK hP 0 rfl rfl 0 (by decide) (hta _ mw_358) (fun _ h9 => h9) rfl dX8_kappa_102 ?_
  refine va_get (D := G) (ci := 1) (v := .int t_desk_genus) (C := RX1) (T := TX1) (N := 5) hx hb hts hinX1 hown hK hP 2 rfl rfl 0 (by decide) (hta _ mw_389) (fun _ h9 => h9) rfl dX8_kappa_105 ?_
  obtain ⟨x9, hx9, h⟩ := bd_e h
  try dsimp only at h
  refine k_SlU (n := 1) (As := [.int t_desk_genus]) (rest := [.long vJ99_5]) hx hb hml hown hts (c_X3_lineOf l G cI cJ cD cH H.size t_desk_genus x9 hx9) gX8_kappa_X3_lineOf rfl rfl rfl (by decide +kernel) ⟨by first | exact Nat.le_of_ble_eq_true rfl | (simp only [headSpec]; omega), by first | exact Nat.le_of_ble_eq_true rfl | (simp only [headSpec]; omega)⟩ hK hP hD hS hA [] (by decide) rfl rfl rfl hl.1 (Nat.le_of_ble_eq_true rfl) dX8_kappa_108 ⟨Nat.zero_le _, Nat.zero_le _⟩ (fun hp9 H locs hP hS => ?_)
  refine lv_iload hx hb dX8_kappa_111 (lv_at hl 1 rfl) ?_
  obtain ⟨x10, hx10, h⟩ := bd_e h
  try dsimp only at h
  refine k_SlU (n := 3) (As := [.long vJ99_5, .long x9, .int p3]) (rest := []) hx hb hml hown hts (c_X8_partOf l G cI cJ cD cH H.size vJ99_5 x9 p3 x10 hx10) gX8_kappa_X8_partOf rfl rfl rfl (by decide +kernel) ⟨by first | exact Nat.le_of_ble_eq_true rfl | (simp only [headSpec]; omega), by first | exact Nat.le_of_ble_eq_true rfl | (simp only [headSpec]; omega)⟩ hK hP hD hS hA [] (by decide) rfl rfl rfl hl.1 (Nat.le_of_ble_eq_true rfl) dX8_kappa_113 ⟨Nat.zero_le _, Nat.zero_le _⟩ (fun hp10 H locs hP hS => ?_)
  have h9 := Option.some.inj h
  have e9 : x10 = r0 := congrArg (fun z9 => z9.1) h9
  rw [← e9]
  have e9 : vJ99_0 = w0 := congrArg (fun z9 => z9.2.1) h9
  rw [← e9]
  have e9 : vJ99_1 = w1 := congrArg (fun z9 => z9.2.2.1) h9
  rw [← e9]
  have e9 : vJ99_2 = w2 := congrArg (fun z9 => z9.2.2.2.1) h9
  rw [← e9]
  have e9 : vJ99_3 = w3 := congrArg (fun z9 => z9.2.2.2.2.1) h9
  rw [← e9]
  have e9 : vJ99_4 = w4 := congrArg (fun z9 => z9.2.2.2.2.2) h9
  rw [← e9]
  exact k_lret hx hb hr hlocks hP hS rfl dX8_kappa_116
set_option maxHeartbeats 4000000 in
set_option maxRecDepth 100000 in
theorem tJ_X8_kappa_57 {l : Launch} {G : va_G} {cI cJ cD cH : ClassId} {h_t : Nat} {h_t_numbers : Nat} {h_t_desk : Nat} {h_t_desk_powers : Nat} {h_t_numbers_keys : Nat} {h_t_numbers_aboves : Nat} {h_t_imageDesk : Nat} {h_t_deeds : Nat} {h_t_tape : Nat} {h_t_reader : Nat} {h_t_speller : Nat} {h_t_holders : Nat} {h_t_numbers_rounds : Nat} {t_imageKept : Int32} {t_numbers_round : Int32} {t_numbers_size : Int32} {t_numbers_sum : Int32} {t_numbers_gathered : Int64} {t_desk_genus : Int32} {t_desk_size : Int32} {t_desk_limit : Int32} {t_desk_tree : Int64} {a_t_desk_powers : Nat → Int32} {a_t_numbers_keys : Nat → Int64} {a_t_numbers_aboves : Nat → Int64} {p0 : Int32} {p1 : Int32} {p2 : Int32} {p3 : Int32} {r0 : Int64} {w0 : Nat → Int64} {w1 : Nat → Int64} {w2 : Int32} {w3 : Int32} {w4 : Int64} {p : Program} {e : Env} {s : State} {m : MethodId} {below : List Frame} {meth : Method} {c : Code} {A : Nat → Prop} (hx : p.tables.exec = Jvm.exec) (hb : c.code = cX8_kappa) (hr : meth.sig.returnType = (some .long)) (hml : c.maxLocals = 7) (hts : ∀ w ∈ wsX8_kappa, w.before ([.ref h_t, .int p0, .int p1, .int p2, .int p3] : List Value).toArray s = true) (hown : s.vm.findClass RX8 = some m.cls) (hlocks : meth.locks = false) (hK : va_K G vwCl (k_T cI cJ cD cH) s) (hA : ∀ q : Nat, s.heap.size ≤ q → A q) : ∀ (H : Heap) (locs : List Loc) (ls : Array Slot), va_P G vwCl [(h_t, .inr (7, [.ref h_t_desk, .ref h_t_imageDesk, .ref h_t_deeds, .ref h_t_numbers, .ref h_t_tape, .ref h_t_reader, .ref h_t_speller, .ref h_t_holders, .int t_imageKept])), (h_t_numbers, .inr (3, [.ref h_t_numbers_keys, .ref h_t_numbers_aboves, .ref h_t_numbers_rounds, .int t_numbers_round, .int t_numbers_size, .int t_numbers_sum, .long t_numbers_gathered])), (h_t_desk, .inr (1, [.int t_desk_genus, .int t_desk_size, .ref h_t_desk_powers, .int t_desk_limit, .long t_desk_tree])), (h_t_desk_powers, .inl (cI, 8, .inl a_t_desk_powers)), (h_t_numbers_keys, .inl (cJ, 1024, .inr (.inl a_t_numbers_keys))), (h_t_numbers_aboves, .inl (cJ, 1024, .inr (.inl a_t_numbers_aboves)))] H → va_D A [(h_t, .inr (7, [.ref h_t_desk, .ref h_t_imageDesk, .ref h_t_deeds, .ref h_t_numbers, .ref h_t_tape, .ref h_t_reader, .ref h_t_speller, .ref h_t_holders, .int t_imageKept])), (h_t_numbers, .inr (3, [.ref h_t_numbers_keys, .ref h_t_numbers_aboves, .ref h_t_numbers_rounds, .int t_numbers_round, .int t_numbers_size, .int t_numbers_sum, .long t_numbers_gathered])), (h_t_desk, .inr (1, [.int t_desk_genus, .int t_desk_size, .ref h_t_desk_powers, .int t_desk_limit, .long t_desk_tree])), (h_t_desk_powers, .inl (cI, 8, .inl a_t_desk_powers)), (h_t_numbers_keys, .inl (cJ, 1024, .inr (.inl a_t_numbers_keys))), (h_t_numbers_aboves, .inl (cJ, 1024, .inr (.inl a_t_numbers_aboves)))] → va_S A s.heap H locs → lv_has ls 7 [(0, .ref h_t), (1, .int p0), (2, .int p1), (3, .int p2), (4, .int p3)] → J_X8_kappa_57 t_desk_genus t_desk_size a_t_desk_powers a_t_numbers_keys a_t_numbers_aboves p0 p1 p2 p3 = some (r0, w0, w1, w2, w3, w4) → W p l e (headSpec wsX8_kappa ({ frames := 27, cells := 0, slots := 0, locals := 769 })).room s m ([.ref h_t, .int p0, .int p1, .int p2, .int p3] : List Value).toArray below meth c H locs 0 0 (MQ below (va_Ql (fun r (_ : Unit) => r = r0 ∧ True) (fun _ t => va_P G vwCl [(h_t, .inr (7, [.ref h_t_desk, .ref h_t_imageDesk, .ref h_t_deeds, .ref h_t_numbers, .ref h_t_tape, .ref h_t_reader, .ref h_t_speller, .ref h_t_holders, .int t_imageKept])), (h_t_numbers, .inr (3, [.ref h_t_numbers_keys, .ref h_t_numbers_aboves, .ref h_t_numbers_rounds, .int t_numbers_round, .int w2, .int w3, .long w4])), (h_t_desk, .inr (1, [.int t_desk_genus, .int t_desk_size, .ref h_t_desk_powers, .int t_desk_limit, .long t_desk_tree])), (h_t_desk_powers, .inl (cI, 8, .inl a_t_desk_powers)), (h_t_numbers_keys, .inl (cJ, 1024, .inr (.inl w0))), (h_t_numbers_aboves, .inl (cJ, 1024, .inr (.inl w1)))] t.heap) A) ([.ref h_t, .int p0, .int p1, .int p2, .int p3] : List Value).toArray s 0 0 A) (F0 m 57 ls []) := by
  have hta : ∀ w ∈ wA, w.before ([.ref h_t, .int p0, .int p1, .int p2, .int p3] : List Value).toArray s = true := hta_of hts
  have hinX1 : ∀ w ∈ wsX10, w ∈ wsX8_kappa := hin_of in_X1
  have hinX8 : ∀ w ∈ wsX80, w ∈ wsX8_kappa := hin_of in_X8
  intro  H locs ls hP hD hS hl h
  unfold J_X8_kappa_57 at h
  refine lv_iload_n hx hb dX8_kappa_57 rfl (lv_at hl 3 rfl) ?_
  refine lv_iconst (v := (-1 : Int32)) hx hb dX8_kappa_58 (by decide) ?_
  refine lv_icmp_eq (tgt := 74) hx hb dX8_kappa_59 (by decide) (fun c11 => ?_) (fun c11 => ?_)
  rotate_left
  · have h := it_n h c11
    refine lv_aload_n hx hb dX8_kappa_62 rfl (lv_at hl 0 rfl) ?_
    refine lv_iload_n hx hb dX8_kappa_63 rfl (lv_at hl 1 rfl) ?_
    refine lv_iload_n hx hb dX8_kappa_64 rfl (lv_at hl 2 rfl) ?_
    refine lv_iload_n hx hb dX8_kappa_65 rfl (lv_at hl 3 rfl) ?_
    obtain ⟨x15, hx15, h⟩ := bd_e h
    try dsimp only at h
    refine k_VlM (n := 3) (As := [.int p0, .int p1, .int p2]) (rest := []) hx hb hml hown hts (c_X8_kappaOfThree l G cI cJ cD cH H.size h_t h_t_numbers h_t_desk h_t_desk_powers h_t_numbers_keys h_t_numbers_aboves h_t_imageDesk h_t_deeds h_t_tape h_t_reader h_t_speller h_t_holders h_t_numbers_rounds t_imageKept t_numbers_round t_numbers_size t_numbers_sum t_numbers_gathered t_desk_genus t_desk_size t_desk_limit t_desk_tree a_t_desk_powers a_t_numbers_keys a_t_numbers_aboves p0 p1 p2 (x15.1) (x15.2.1) (x15.2.2.1) (x15.2.2.2.1) (x15.2.2.2.2.1) (x15.2.2.2.2.2) hx15) gX8_kappa_X8_kappaOfThree rfl rfl rfl (by decide +kernel) ⟨by first | exact Nat.le_of_ble_eq_true rfl | (simp only [headSpec]; omega), by first | exact Nat.le_of_ble_eq_true rfl | (simp only [headSpec]; omega)⟩ hK hP hD hS hA [0, 1, 2, 3, 4, 5] (by decide) rfl rfl (ci := 7) rfl rfl rfl rfl rfl hl.1 (Nat.le_of_ble_eq_true rfl) dX8_kappa_66 ⟨Nat.zero_le _, Nat.zero_le _⟩ [(h_t, .inr (7, [.ref h_t_desk, .ref h_t_imageDesk, .ref h_t_deeds, .ref h_t_numbers, .ref h_t_tape, .ref h_t_reader, .ref h_t_speller, .ref h_t_holders, .int t_imageKept])), (h_t_numbers, .inr (3, [.ref h_t_numbers_keys, .ref h_t_numbers_aboves, .ref h_t_numbers_rounds, .int t_numbers_round, .int (x15.2.2.2.1), .int (x15.2.2.2.2.1), .long (x15.2.2.2.2.2)])), (h_t_desk, .inr (1, [.int t_desk_genus, .int t_desk_size, .ref h_t_desk_powers, .int t_desk_limit, .long t_desk_tree])), (h_t_desk_powers, .inl (cI, 8, .inl a_t_desk_powers)), (h_t_numbers_keys, .inl (cJ, 1024, .inr (.inl (x15.2.1)))), (h_t_numbers_aboves, .inl (cJ, 1024, .inr (.inl (x15.2.2.1))))] [1, 2, 3, 4, 5, 6] 6 (by decide +kernel) rfl rfl rfl (fun hp15 H locs hP hD hS => ?_)
    refine lv_lstore (lv' := [(5, .long (x15.1)), (0, .ref h_t), (1, .int p0), (2, .int p1), (3, .int p2), (4, .int p3)]) hx hb dX8_kappa_69 hl (by decide) rfl (fun ls hl => ?_)
    refine lv_goto (tgt := 99) hx hb dX8_kappa_71 (by decide) ?_
    exact tJ_X8_kappa_99 hx hb hr hml hts hown hlocks hK hA (x15.2.1) (x15.2.2.1) (x15.2.2.2.1) (x15.2.2.2.2.1) (x15.2.2.2.2.2) (x15.1) _ _ _ hP hD hS (lv_sub hl [1, 5, 0] rfl) h
  have h := it_p h c11
  refine lv_iload_n hx hb dX8_kappa_74 rfl (lv_at hl 2 rfl) ?_
  refine lv_iconst (v := (-1 : Int32)) hx hb dX8_kappa_75 (by decide) ?_
  refine lv_icmp_eq (tgt := 90) hx hb dX8_kappa_76 (by decide) (fun c12 => ?_) (fun c12 => ?_)
  · have h := it_p h c12
    refine lv_aload_n hx hb dX8_kappa_90 rfl (lv_at hl 0 rfl) ?_
    refine lv_iload_n hx hb dX8_kappa_91 rfl (lv_at hl 1 rfl) ?_
    refine lv_iconst (v := (-1 : Int32)) hx hb dX8_kappa_92 (by decide) ?_
    refine lv_iconst (v := (-1 : Int32)) hx hb dX8_kappa_93 (by decide) ?_
    obtain ⟨x13, hx13, h⟩ := bd_e h
    try dsimp only at h
    refine k_VlM (n := 3) (As := [.int p0, .int (-1 : Int32), .int (-1 : Int32)]) (rest := []) hx hb hml hown hts (c_X8_aboveWith l G cI cJ cD cH H.size h_t h_t_numbers h_t_desk h_t_desk_powers h_t_numbers_keys h_t_numbers_aboves h_t_imageDesk h_t_deeds h_t_tape h_t_reader h_t_speller h_t_holders h_t_numbers_rounds t_imageKept t_numbers_round t_numbers_size t_numbers_sum t_numbers_gathered t_desk_genus t_desk_size t_desk_limit t_desk_tree a_t_desk_powers a_t_numbers_keys a_t_numbers_aboves p0 (-1 : Int32) (-1 : Int32) (x13.1) (x13.2.1) (x13.2.2.1) (x13.2.2.2.1) (x13.2.2.2.2.1) (x13.2.2.2.2.2) hx13) gX8_kappa_X8_aboveWith rfl rfl rfl (by decide +kernel) ⟨by first | exact Nat.le_of_ble_eq_true rfl | (simp only [headSpec]; omega), by first | exact Nat.le_of_ble_eq_true rfl | (simp only [headSpec]; omega)⟩ hK hP hD hS hA [0, 1, 2, 3, 4, 5] (by decide) rfl rfl (ci := 7) rfl rfl rfl rfl rfl hl.1 (Nat.le_of_ble_eq_true rfl) dX8_kappa_94 ⟨Nat.zero_le _, Nat.zero_le _⟩ [(h_t, .inr (7, [.ref h_t_desk, .ref h_t_imageDesk, .ref h_t_deeds, .ref h_t_numbers, .ref h_t_tape, .ref h_t_reader, .ref h_t_speller, .ref h_t_holders, .int t_imageKept])), (h_t_numbers, .inr (3, [.ref h_t_numbers_keys, .ref h_t_numbers_aboves, .ref h_t_numbers_rounds, .int t_numbers_round, .int (x13.2.2.2.1), .int (x13.2.2.2.2.1), .long (x13.2.2.2.2.2)])), (h_t_desk, .inr (1, [.int t_desk_genus, .int t_desk_size, .ref h_t_desk_powers, .int t_desk_limit, .long t_desk_tree])), (h_t_desk_powers, .inl (cI, 8, .inl a_t_desk_powers)), (h_t_numbers_keys, .inl (cJ, 1024, .inr (.inl (x13.2.1)))), (h_t_numbers_aboves, .inl (cJ, 1024, .inr (.inl (x13.2.2.1))))] [1, 2, 3, 4, 5, 6] 6 (by decide +kernel) rfl rfl rfl (fun hp13 H locs hP hD hS => ?_)
    refine lv_lstore (lv' := [(5, .long (x13.1)), (0, .ref h_t), (1, .int p0), (2, .int p1), (3, .int p2), (4, .int p3)]) hx hb dX8_kappa_97 hl (by decide) rfl (fun ls hl => ?_)
    exact tJ_X8_kappa_99 hx hb hr hml hts hown hlocks hK hA (x13.2.1) (x13.2.2.1) (x13.2.2.2.1) (x13.2.2.2.2.1) (x13.2.2.2.2.2) (x13.1) _ _ _ hP hD hS (lv_sub hl [1, 5, 0] rfl) h
  have h := it_n h c12
  refine lv_aload_n hx hb dX8_kappa_79 rfl (lv_at hl 0 rfl) ?_
  refine lv_iload_n hx hb dX8_kappa_80 rfl (lv_at hl 1 rfl) ?_
  refine lv_iload_n hx hb dX8_kappa_81 rfl (lv_at hl 2 rfl) ?_
  obtain ⟨x14, hx14, h⟩ := bd_e h
  try dsimp only at h
  refine k_VlM (n := 2) (As := [.int p0, .int p1]) (rest := []) hx hb hml hown hts (c_X8_kappaOfTwo l G cI cJ cD cH H.size h_t h_t_numbers h_t_desk h_t_desk_powers h_t_numbers_keys h_t_numbers_aboves h_t_imageDesk h_t_deeds h_t_tape h_t_reader h_t_speller h_t_holders h_t_numbers_rounds t_imageKept t_numbers_round t_numbers_size t_numbers_sum t_numbers_gathered t_desk_genus t_desk_size t_desk_limit t_desk_tree a_t_desk_powers a_t_numbers_keys a_t_numbers_aboves p0 p1 (x14.1) (x14.2.1) (x14.2.2.1) (x14.2.2.2.1) (x14.2.2.2.2.1) (x14.2.2.2.2.2) hx14) gX8_kappa_X8_kappaOfTwo rfl rfl rfl (by decide +kernel) ⟨by first | exact Nat.le_of_ble_eq_true rfl | (simp only [headSpec]; omega), by first | exact Nat.le_of_ble_eq_true rfl | (simp only [headSpec]; omega)⟩ hK hP hD hS hA [0, 1, 2, 3, 4, 5] (by decide) rfl rfl (ci := 7) rfl rfl rfl rfl rfl hl.1 (Nat.le_of_ble_eq_true rfl) dX8_kappa_82 ⟨Nat.zero_le _, Nat.zero_le _⟩ [(h_t, .inr (7, [.ref h_t_desk, .ref h_t_imageDesk, .ref h_t_deeds, .ref h_t_numbers, .ref h_t_tape, .ref h_t_reader, .ref h_t_speller, .ref h_t_holders, .int t_imageKept])), (h_t_numbers, .inr (3, [.ref h_t_numbers_keys, .ref h_t_numbers_aboves, .ref h_t_numbers_rounds, .int t_numbers_round, .int (x14.2.2.2.1), .int (x14.2.2.2.2.1), .long (x14.2.2.2.2.2)])), (h_t_desk, .inr (1, [.int t_desk_genus, .int t_desk_size, .ref h_t_desk_powers, .int t_desk_limit, .long t_desk_tree])), (h_t_desk_powers, .inl (cI, 8, .inl a_t_desk_powers)), (h_t_numbers_keys, .inl (cJ, 1024, .inr (.inl (x14.2.1)))), (h_t_numbers_aboves, .inl (cJ, 1024, .inr (.inl (x14.2.2.1))))] [1, 2, 3, 4, 5, 6] 6 (by decide +kernel) rfl rfl rfl (fun hp14 H locs hP hD hS => ?_)
  refine lv_lstore (lv' := [(5, .long (x14.1)), (0, .ref h_t), (1, .int p0), (2, .int p1), (3, .int p2), (4, .int p3)]) hx hb dX8_kappa_85 hl (by decide) rfl (fun ls hl => ?_)
  refine lv_goto (tgt := 99) hx hb dX8_kappa_87 (by decide) ?_
  exact tJ_X8_kappa_99 hx hb hr hml hts hown hlocks hK hA (x14.2.1) (x14.2.2.1) (x14.2.2.2.1) (x14.2.2.2.2.1) (x14.2.2.2.2.2) (x14.1) _ _ _ hP hD hS (lv_sub hl [1, 5, 0] rfl) h
set_option maxHeartbeats 4000000 in
set_option maxRecDepth 100000 in
theorem tJ_X8_kappa_43 {l : Launch} {G : va_G} {cI cJ cD cH : ClassId} {h_t : Nat} {h_t_numbers : Nat} {h_t_desk : Nat} {h_t_desk_powers : Nat} {h_t_numbers_keys : Nat} {h_t_numbers_aboves : Nat} {h_t_imageDesk : Nat} {h_t_deeds : Nat} {h_t_tape : Nat} {h_t_reader : Nat} {h_t_speller : Nat} {h_t_holders : Nat} {h_t_numbers_rounds : Nat} {t_imageKept : Int32} {t_numbers_round : Int32} {t_numbers_size : Int32} {t_numbers_sum : Int32} {t_numbers_gathered : Int64} {t_desk_genus : Int32} {t_desk_size : Int32} {t_desk_limit : Int32} {t_desk_tree : Int64} {a_t_desk_powers : Nat → Int32} {a_t_numbers_keys : Nat → Int64} {a_t_numbers_aboves : Nat → Int64} {p0 : Int32} {p1 : Int32} {p2 : Int32} {p3 : Int32} {r0 : Int64} {w0 : Nat → Int64} {w1 : Nat → Int64} {w2 : Int32} {w3 : Int32} {w4 : Int64} {p : Program} {e : Env} {s : State} {m : MethodId} {below : List Frame} {meth : Method} {c : Code} {A : Nat → Prop} (hx : p.tables.exec = Jvm.exec) (hb : c.code = cX8_kappa) (hr : meth.sig.returnType = (some .long)) (hml : c.maxLocals = 7) (hts : ∀ w ∈ wsX8_kappa, w.before ([.ref h_t, .int p0, .int p1, .int p2, .int p3] : List Value).toArray s = true) (hown : s.vm.findClass RX8 = some m.cls) (hlocks : meth.locks = false) (hK : va_K G vwCl (k_T cI cJ cD cH) s) (hA : ∀ q : Nat, s.heap.size ≤ q → A q) : ∀ (H : Heap) (locs : List Loc) (ls : Array Slot), va_P G vwCl [(h_t, .inr (7, [.ref h_t_desk, .ref h_t_imageDesk, .ref h_t_deeds, .ref h_t_numbers, .ref h_t_tape, .ref h_t_reader, .ref h_t_speller, .ref h_t_holders, .int t_imageKept])), (h_t_numbers, .inr (3, [.ref h_t_numbers_keys, .ref h_t_numbers_aboves, .ref h_t_numbers_rounds, .int t_numbers_round, .int t_numbers_size, .int t_numbers_sum, .long t_numbers_gathered])), (h_t_desk, .inr (1, [.int t_desk_genus, .int t_desk_size, .ref h_t_desk_powers, .int t_desk_limit, .long t_desk_tree])), (h_t_desk_powers, .inl (cI, 8, .inl a_t_desk_powers)), (h_t_numbers_keys, .inl (cJ, 1024, .inr (.inl a_t_numbers_keys))), (h_t_numbers_aboves, .inl (cJ, 1024, .inr (.inl a_t_numbers_aboves)))] H → va_D A [(h_t, .inr (7, [.ref h_t_desk, .ref h_t_imageDesk, .ref h_t_deeds, .ref h_t_numbers, .ref h_t_tape, .ref h_t_reader, .ref h_t_speller, .ref h_t_holders, .int t_imageKept])), (h_t_numbers, .inr (3, [.ref h_t_numbers_keys, .ref h_t_numbers_aboves, .ref h_t_numbers_rounds, .int t_numbers_round, .int t_numbers_size, .int t_numbers_sum, .long t_numbers_gathered])), (h_t_desk, .inr (1, [.int t_desk_genus, .int t_desk_size, .ref h_t_desk_powers, .int t_desk_limit, .long t_desk_tree])), (h_t_desk_powers, .inl (cI, 8, .inl a_t_desk_powers)), (h_t_numbers_keys, .inl (cJ, 1024, .inr (.inl a_t_numbers_keys))), (h_t_numbers_aboves, .inl (cJ, 1024, .inr (.inl a_t_numbers_aboves)))] → va_S A s.heap H locs → lv_has ls 7 [(0, .ref h_t), (1, .int p0), (2, .int p1), (3, .int p2), (4, .int p3)] → J_X8_kappa_43 t_numbers_size t_numbers_sum t_numbers_gathered t_desk_genus t_desk_size a_t_desk_powers a_t_numbers_keys a_t_numbers_aboves p0 p1 p2 p3 = some (r0, w0, w1, w2, w3, w4) → W p l e (headSpec wsX8_kappa ({ frames := 27, cells := 0, slots := 0, locals := 769 })).room s m ([.ref h_t, .int p0, .int p1, .int p2, .int p3] : List Value).toArray below meth c H locs 0 0 (MQ below (va_Ql (fun r (_ : Unit) => r = r0 ∧ True) (fun _ t => va_P G vwCl [(h_t, .inr (7, [.ref h_t_desk, .ref h_t_imageDesk, .ref h_t_deeds, .ref h_t_numbers, .ref h_t_tape, .ref h_t_reader, .ref h_t_speller, .ref h_t_holders, .int t_imageKept])), (h_t_numbers, .inr (3, [.ref h_t_numbers_keys, .ref h_t_numbers_aboves, .ref h_t_numbers_rounds, .int t_numbers_round, .int w2, .int w3, .long w4])), (h_t_desk, .inr (1, [.int t_desk_genus, .int t_desk_size, .ref h_t_desk_powers, .int t_desk_limit, .long t_desk_tree])), (h_t_desk_powers, .inl (cI, 8, .inl a_t_desk_powers)), (h_t_numbers_keys, .inl (cJ, 1024, .inr (.inl w0))), (h_t_numbers_aboves, .inl (cJ, 1024, .inr (.inl w1)))] t.heap) A) ([.ref h_t, .int p0, .int p1, .int p2, .int p3] : List Value).toArray s 0 0 A) (F0 m 43 ls []) := by
  have hta : ∀ w ∈ wA, w.before ([.ref h_t, .int p0, .int p1, .int p2, .int p3] : List Value).toArray s = true := hta_of hts
  have hinX1 : ∀ w ∈ wsX10, w ∈ wsX8_kappa := hin_of in_X1
  have hinX8 : ∀ w ∈ wsX80, w ∈ wsX8_kappa := hin_of in_X8
  intro  H locs ls hP hD hS hl h
  unfold J_X8_kappa_43 at h
  refine lv_iload_n hx hb dX8_kappa_43 rfl (lv_at hl 2 rfl) ?_
  refine lv_iconst (v := (-1 : Int32)) hx hb dX8_kappa_44 (by decide) ?_
  refine lv_icmp_ne (tgt := 57) hx hb dX8_kappa_45 (by decide) (fun c16 => ?_) (fun c16 => ?_)
  · have h := it_n h c16
    exact tJ_X8_kappa_57 hx hb hr hml hts hown hlocks hK hA  _ _ _ hP hD hS (lv_sub hl [0, 1, 2, 3, 4] rfl) h
  have h := it_p h c16
  refine lv_iload_n hx hb dX8_kappa_48 rfl (lv_at hl 3 rfl) ?_
  refine lv_iconst (v := (-1 : Int32)) hx hb dX8_kappa_49 (by decide) ?_
  refine lv_icmp_eq (tgt := 57) hx hb dX8_kappa_50 (by decide) (fun c17 => ?_) (fun c17 => ?_)
  · have h := it_p h c17
    exact tJ_X8_kappa_57 hx hb hr hml hts hown hlocks hK hA  _ _ _ hP hD hS (lv_sub hl [0, 1, 2, 3, 4] rfl) h
  have h := it_n h c17
  refine lv_ldc2 (v := (-9223372036854775808 : Int64)) hx hb hown (hta _ mw_424) dX8_kappa_53 ?_
  have h9 := Option.some.inj h
  have e9 : (-9223372036854775808 : Int64) = r0 := congrArg (fun z9 => z9.1) h9
  rw [← e9]
  have e9 : a_t_numbers_keys = w0 := congrArg (fun z9 => z9.2.1) h9
  rw [← e9]
  have e9 : a_t_numbers_aboves = w1 := congrArg (fun z9 => z9.2.2.1) h9
  rw [← e9]
  have e9 : t_numbers_size = w2 := congrArg (fun z9 => z9.2.2.2.1) h9
  rw [← e9]
  have e9 : t_numbers_sum = w3 := congrArg (fun z9 => z9.2.2.2.2.1) h9
  rw [← e9]
  have e9 : t_numbers_gathered = w4 := congrArg (fun z9 => z9.2.2.2.2.2) h9
  rw [← e9]
  exact k_lret hx hb hr hlocks hP hS rfl dX8_kappa_56
set_option maxHeartbeats 4000000 in
set_option maxRecDepth 100000 in
theorem c_X8_kappa (l : Launch) (G : va_G) (cI cJ cD cH : ClassId) (sz : Nat) (h_t : Nat) (h_t_numbers : Nat) (h_t_desk : Nat) (h_t_desk_powers : Nat) (h_t_numbers_keys : Nat) (h_t_numbers_aboves : Nat) (h_t_imageDesk : Nat) (h_t_deeds : Nat) (h_t_tape : Nat) (h_t_reader : Nat) (h_t_speller : Nat) (h_t_holders : Nat) (h_t_numbers_rounds : Nat) (t_imageKept : Int32) (t_numbers_round : Int32) (t_numbers_size : Int32) (t_numbers_sum : Int32) (t_numbers_gathered : Int64) (t_desk_genus : Int32) (t_desk_size : Int32) (t_desk_limit : Int32) (t_desk_tree : Int64) (a_t_desk_powers : Nat → Int32) (a_t_numbers_keys : Nat → Int64) (a_t_numbers_aboves : Nat → Int64) (p0 : Int32) (p1 : Int32) (p2 : Int32) (p3 : Int32) (r0 : Int64) (w0 : Nat → Int64) (w1 : Nat → Int64) (w2 : Int32) (w3 : Int32) (w4 : Int64) (hF : F_X8_kappa t_numbers_size t_numbers_sum t_numbers_gathered t_desk_genus t_desk_size a_t_desk_powers a_t_numbers_keys a_t_numbers_aboves p0 p1 p2 p3 = some (r0, w0, w1, w2, w3, w4)) : Met l yX8_kappa wsX8_kappa ({ frames := 27, cells := 0, slots := 0, locals := 769 }) (k_pre G (k_T cI cJ cD cH) [(h_t, .inr (7, [.ref h_t_desk, .ref h_t_imageDesk, .ref h_t_deeds, .ref h_t_numbers, .ref h_t_tape, .ref h_t_reader, .ref h_t_speller, .ref h_t_holders, .int t_imageKept])), (h_t_numbers, .inr (3, [.ref h_t_numbers_keys, .ref h_t_numbers_aboves, .ref h_t_numbers_rounds, .int t_numbers_round, .int t_numbers_size, .int t_numbers_sum, .long t_numbers_gathered])), (h_t_desk, .inr (1, [.int t_desk_genus, .int t_desk_size, .ref h_t_desk_powers, .int t_desk_limit, .long t_desk_tree])), (h_t_desk_powers, .inl (cI, 8, .inl a_t_desk_powers)), (h_t_numbers_keys, .inl (cJ, 1024, .inr (.inl a_t_numbers_keys))), (h_t_numbers_aboves, .inl (cJ, 1024, .inr (.inl a_t_numbers_aboves)))] sz [.ref h_t, .int p0, .int p1, .int p2, .int p3]) (va_Ql (fun r (_ : Unit) => r = r0 ∧ True) (fun _ t => va_P G vwCl [(h_t, .inr (7, [.ref h_t_desk, .ref h_t_imageDesk, .ref h_t_deeds, .ref h_t_numbers, .ref h_t_tape, .ref h_t_reader, .ref h_t_speller, .ref h_t_holders, .int t_imageKept])), (h_t_numbers, .inr (3, [.ref h_t_numbers_keys, .ref h_t_numbers_aboves, .ref h_t_numbers_rounds, .int t_numbers_round, .int w2, .int w3, .long w4])), (h_t_desk, .inr (1, [.int t_desk_genus, .int t_desk_size, .ref h_t_desk_powers, .int t_desk_limit, .long t_desk_tree])), (h_t_desk_powers, .inl (cI, 8, .inl a_t_desk_powers)), (h_t_numbers_keys, .inl (cJ, 1024, .inr (.inl w0))), (h_t_numbers_aboves, .inl (cJ, 1024, .inr (.inl w1)))] t.heap) (va_A [(h_t, .inr (7, [.ref h_t_desk, .ref h_t_imageDesk, .ref h_t_deeds, .ref h_t_numbers, .ref h_t_tape, .ref h_t_reader, .ref h_t_speller, .ref h_t_holders, .int t_imageKept])), (h_t_numbers, .inr (3, [.ref h_t_numbers_keys, .ref h_t_numbers_aboves, .ref h_t_numbers_rounds, .int t_numbers_round, .int t_numbers_size, .int t_numbers_sum, .long t_numbers_gathered])), (h_t_desk, .inr (1, [.int t_desk_genus, .int t_desk_size, .ref h_t_desk_powers, .int t_desk_limit, .long t_desk_tree])), (h_t_desk_powers, .inl (cI, 8, .inl a_t_desk_powers)), (h_t_numbers_keys, .inl (cJ, 1024, .inr (.inl a_t_numbers_keys))), (h_t_numbers_aboves, .inl (cJ, 1024, .inr (.inl a_t_numbers_aboves)))] sz)) 0 0 (va_A [(h_t, .inr (7, [.ref h_t_desk, .ref h_t_imageDesk, .ref h_t_deeds, .ref h_t_numbers, .ref h_t_tape, .ref h_t_reader, .ref h_t_speller, .ref h_t_holders, .int t_imageKept])), (h_t_numbers, .inr (3, [.ref h_t_numbers_keys, .ref h_t_numbers_aboves, .ref h_t_numbers_rounds, .int t_numbers_round, .int t_numbers_size, .int t_numbers_sum, .long t_numbers_gathered])), (h_t_desk, .inr (1, [.int t_desk_genus, .int t_desk_size, .ref h_t_desk_powers, .int t_desk_limit, .long t_desk_tree])), (h_t_desk_powers, .inl (cI, 8, .inl a_t_desk_powers)), (h_t_numbers_keys, .inl (cJ, 1024, .inr (.inl a_t_numbers_keys))), (h_t_numbers_aboves, .inl (cJ, 1024, .inr (.inl a_t_numbers_aboves)))] sz) := by
  refine Met.ofW (cc := cX8_kappa) (maxL := 7) (ret := (some .long)) (by decide) rfl ?_
  intro p e s m args below meth c s₁ B hml hv
  obtain ⟨rfl, hsz, hP, hK, hD0⟩ := hv
  have hx := B.exec
  have hb := B.bytes
  have hr := B.returns
  have hts := atoms_spec (ws := wsX8_kappa) B.pre
  have hta : ∀ w ∈ wA, w.before ([.ref h_t, .int p0, .int p1, .int p2, .int p3] : List Value).toArray s = true := hta_of hts
  have hown : s.vm.findClass RX8 = some m.cls := findClass_of_methodNamed B.named
  have hlocks := B.notSynchronized
  subst hsz
  have hD := hD0.self (sz := s.heap.size)
  generalize hAe : va_A [(h_t, .inr (7, [.ref h_t_desk, .ref h_t_imageDesk, .ref h_t_deeds, .ref h_t_numbers, .ref h_t_tape, .ref h_t_reader, .ref h_t_speller, .ref h_t_holders, .int t_imageKept])), (h_t_numbers, .inr (3, [.ref h_t_numbers_keys, .ref h_t_numbers_aboves, .ref h_t_numbers_rounds, .int t_numbers_round, .int t_numbers_size, .int t_numbers_sum, .long t_numbers_gathered])), (h_t_desk, .inr (1, [.int t_desk_genus, .int t_desk_size, .ref h_t_desk_powers, .int t_desk_limit, .long t_desk_tree])), (h_t_desk_powers, .inl (cI, 8, .inl a_t_desk_powers)), (h_t_numbers_keys, .inl (cJ, 1024, .inr (.inl a_t_numbers_keys))), (h_t_numbers_aboves, .inl (cJ, 1024, .inr (.inl a_t_numbers_aboves)))] s.heap.size = A at hD ⊢
  have hA : ∀ q : Nat, s.heap.size ≤ q → A q := fun q h => by rw [← hAe]; exact Or.inr h
  have hS : va_S A s.heap s.heap [] := va_S.rf
  have hl := lv_entry ([.ref h_t, .int p0, .int p1, .int p2, .int p3]) (n := 7) (Nat.le_of_ble_eq_true rfl)
  rw [lg_entry_eq]
  generalize (lg_sl ([.ref h_t, .int p0, .int p1, .int p2, .int p3]) ++ List.replicate (7 - (lg_sl ([.ref h_t, .int p0, .int p1, .int p2, .int p3])).length) Slot.unset).toArray = ls at hl ⊢
  have hl : lv_has ls 7 [(0, .ref h_t), (1, .int p0), (2, .int p1), (3, .int p2), (4, .int p3)] := hl
  have hinX1 : ∀ w ∈ wsX10, w ∈ wsX8_kappa := hin_of in_X1
  have hinX8 : ∀ w ∈ wsX80, w ∈ wsX8_kappa := hin_of in_X8
  have h := hF
  unfold F_X8_kappa at h
  refine lv_iload_n hx hb dX8_kappa_0 rfl (lv_at hl 1 rfl) ?_
  obtain ⟨x1, hx1, h⟩ := bd_e h
  try dsimp only at h
  refine k_SiU (n := 1) (As := [.int p0]) (rest := []) hx hb hml hown hts (c_X8_isKappa l G cI cJ cD cH s.heap.size p0 x1 hx1) gX8_kappa_X8_isKappa rfl rfl rfl (by decide +kernel) ⟨by first | exact Nat.le_of_ble_eq_true rfl | (simp only [headSpec]; omega), by first | exact Nat.le_of_ble_eq_true rfl | (simp only [headSpec]; omega)⟩ hK hP hD hS hA [] (by decide) rfl rfl rfl hl.1 (Nat.le_of_ble_eq_true rfl) dX8_kappa_1 ⟨Nat.zero_le _, Nat.zero_le _⟩ (fun hp1 H locs hP hS => ?_)
  refine lv_if_eq (tgt := 29) hx hb dX8_kappa_4 (by decide) (fun c2 => ?_) (fun c2 => ?_)
  · have h := it_p h c2
    refine lv_ldc2 (v := (-9223372036854775808 : Int64)) hx hb hown (hta _ mw_424) dX8_kappa_29 ?_
    have h9 := Option.some.inj h
    have e9 : (-9223372036854775808 : Int64) = r0 := congrArg (fun z9 => z9.1) h9
    rw [← e9]
    have e9 : a_t_numbers_keys = w0 := congrArg (fun z9 => z9.2.1) h9
    rw [← e9]
    have e9 : a_t_numbers_aboves = w1 := congrArg (fun z9 => z9.2.2.1) h9
    rw [← e9]
    have e9 : t_numbers_size = w2 := congrArg (fun z9 => z9.2.2.2.1) h9
    rw [← e9]
    have e9 : t_numbers_sum = w3 := congrArg (fun z9 => z9.2.2.2.2.1) h9
    rw [← e9]
    have e9 : t_numbers_gathered = w4 := congrArg (fun z9 => z9.2.2.2.2.2) h9
    rw [← e9]
    exact k_lret hx hb hr hlocks hP hS rfl dX8_kappa_32
  have h := it_n h c2
  refine lv_iload_n hx hb dX8_kappa_7 rfl (lv_at hl 2 rfl) ?_
  obtain ⟨x3, hx3, h⟩ := bd_e h
  try dsimp only at h
  refine k_SiU (n := 1) (As := [.int p1]) (rest := []) hx hb hml hown hts (c_X8_isKappa l G cI cJ cD cH H.size p1 x3 hx3) gX8_kappa_X8_isKappa rfl rfl rfl (by decide +kernel) ⟨by first | exact Nat.le_of_ble_eq_true rfl | (simp only [headSpec]; omega), by first | exact Nat.le_of_ble_eq_true rfl | (simp only [headSpec]; omega)⟩ hK hP hD hS hA [] (by decide) rfl rfl rfl hl.1 (Nat.le_of_ble_eq_true rfl) dX8_kappa_8 ⟨Nat.zero_le _, Nat.zero_le _⟩ (fun hp3 H locs hP hS => ?_)
  refine lv_if_eq (tgt := 29) hx hb dX8_kappa_11 (by decide) (fun c4 => ?_) (fun c4 => ?_)
  · have h := it_p h c4
    refine lv_ldc2 (v := (-9223372036854775808 : Int64)) hx hb hown (hta _ mw_424) dX8_kappa_29 ?_
    have h9 := Option.some.inj h
    have e9 : (-9223372036854775808 : Int64) = r0 := congrArg (fun z9 => z9.1) h9
    rw [← e9]
    have e9 : a_t_numbers_keys = w0 := congrArg (fun z9 => z9.2.1) h9
    rw [← e9]
    have e9 : a_t_numbers_aboves = w1 := congrArg (fun z9 => z9.2.2.1) h9
    rw [← e9]
    have e9 : t_numbers_size = w2 := congrArg (fun z9 => z9.2.2.2.1) h9
    rw [← e9]
    have e9 : t_numbers_sum = w3 := congrArg (fun z9 => z9.2.2.2.2.1) h9
    rw [← e9]
    have e9 : t_numbers_gathered = w4 := congrArg (fun z9 => z9.2.2.2.2.2) h9
    rw [← e9]
    exact k_lret hx hb hr hlocks hP hS rfl dX8_kappa_32
  have h := it_n h c4
  refine lv_iload_n hx hb dX8_kappa_14 rfl (lv_at hl 3 rfl) ?_
  obtain ⟨x5, hx5, h⟩ := bd_e h
  try dsimp only at h
  refine k_SiU (n := 1) (As := [.int p2]) (rest := []) hx hb hml hown hts (c_X8_isKappa l G cI cJ cD cH H.size p2 x5 hx5) gX8_kappa_X8_isKappa rfl rfl rfl (by decide +kernel) ⟨by first | exact Nat.le_of_ble_eq_true rfl | (simp only [headSpec]; omega), by first | exact Nat.le_of_ble_eq_true rfl | (simp only [headSpec]; omega)⟩ hK hP hD hS hA [] (by decide) rfl rfl rfl hl.1 (Nat.le_of_ble_eq_true rfl) dX8_kappa_15 ⟨Nat.zero_le _, Nat.zero_le _⟩ (fun hp5 H locs hP hS => ?_)
  refine lv_if_eq (tgt := 29) hx hb dX8_kappa_18 (by decide) (fun c6 => ?_) (fun c6 => ?_)
  · have h := it_p h c6
    refine lv_ldc2 (v := (-9223372036854775808 : Int64)) hx hb hown (hta _ mw_424) dX8_kappa_29 ?_
    have h9 := Option.some.inj h
    have e9 : (-9223372036854775808 : Int64) = r0 := congrArg (fun z9 => z9.1) h9
    rw [← e9]
    have e9 : a_t_numbers_keys = w0 := congrArg (fun z9 => z9.2.1) h9
    rw [← e9]
    have e9 : a_t_numbers_aboves = w1 := congrArg (fun z9 => z9.2.2.1) h9
    rw [← e9]
    have e9 : t_numbers_size = w2 := congrArg (fun z9 => z9.2.2.2.1) h9
    rw [← e9]
    have e9 : t_numbers_sum = w3 := congrArg (fun z9 => z9.2.2.2.2.1) h9
    rw [← e9]
    have e9 : t_numbers_gathered = w4 := congrArg (fun z9 => z9.2.2.2.2.2) h9
    rw [← e9]
    exact k_lret hx hb hr hlocks hP hS rfl dX8_kappa_32
  have h := it_n h c6
  refine lv_iload hx hb dX8_kappa_21 (lv_at hl 4 rfl) ?_
  obtain ⟨x7, hx7, h⟩ := bd_e h
  try dsimp only at h
  refine k_SiU (n := 1) (As := [.int p3]) (rest := []) hx hb hml hown hts (c_X8_isPart l G cI cJ cD cH H.size p3 x7 hx7) gX8_kappa_X8_isPart rfl rfl rfl (by decide +kernel) ⟨by first | exact Nat.le_of_ble_eq_true rfl | (simp only [headSpec]; omega), by first | exact Nat.le_of_ble_eq_true rfl | (simp only [headSpec]; omega)⟩ hK hP hD hS hA [] (by decide) rfl rfl rfl hl.1 (Nat.le_of_ble_eq_true rfl) dX8_kappa_23 ⟨Nat.zero_le _, Nat.zero_le _⟩ (fun hp7 H locs hP hS => ?_)
  refine lv_if_ne (tgt := 33) hx hb dX8_kappa_26 (by decide) (fun c8 => ?_) (fun c8 => ?_)
  rotate_left
  · have h := it_p h c8
    refine lv_ldc2 (v := (-9223372036854775808 : Int64)) hx hb hown (hta _ mw_424) dX8_kappa_29 ?_
    have h9 := Option.some.inj h
    have e9 : (-9223372036854775808 : Int64) = r0 := congrArg (fun z9 => z9.1) h9
    rw [← e9]
    have e9 : a_t_numbers_keys = w0 := congrArg (fun z9 => z9.2.1) h9
    rw [← e9]
    have e9 : a_t_numbers_aboves = w1 := congrArg (fun z9 => z9.2.2.1) h9
    rw [← e9]
    have e9 : t_numbers_size = w2 := congrArg (fun z9 => z9.2.2.2.1) h9
    rw [← e9]
    have e9 : t_numbers_sum = w3 := congrArg (fun z9 => z9.2.2.2.2.1) h9
    rw [← e9]
    have e9 : t_numbers_gathered = w4 := congrArg (fun z9 => z9.2.2.2.2.2) h9
    rw [← e9]
    exact k_lret hx hb hr hlocks hP hS rfl dX8_kappa_32
  have h := it_n h c8
  refine lv_iload_n hx hb dX8_kappa_33 rfl (lv_at hl 1 rfl) ?_
  refine lv_iconst (v := (-1 : Int32)) hx hb dX8_kappa_34 (by decide) ?_
  refine lv_icmp_ne (tgt := 43) hx hb dX8_kappa_35 (by decide) (fun c18 => ?_) (fun c18 => ?_)
  · have h := it_n h c18
    exact tJ_X8_kappa_43 hx hb hr hml hts hown hlocks hK hA  _ _ _ hP hD hS (lv_sub hl [0, 1, 2, 3, 4] rfl) h
  have h := it_p h c18
  refine lv_iload_n hx hb dX8_kappa_38 rfl (lv_at hl 2 rfl) ?_
  refine lv_iconst (v := (-1 : Int32)) hx hb dX8_kappa_39 (by decide) ?_
  refine lv_icmp_ne (tgt := 53) hx hb dX8_kappa_40 (by decide) (fun c19 => ?_) (fun c19 => ?_)
  rotate_left
  · have h := it_p h c19
    exact tJ_X8_kappa_43 hx hb hr hml hts hown hlocks hK hA  _ _ _ hP hD hS (lv_sub hl [0, 1, 2, 3, 4] rfl) h
  have h := it_n h c19
  refine lv_ldc2 (v := (-9223372036854775808 : Int64)) hx hb hown (hta _ mw_424) dX8_kappa_53 ?_
  have h9 := Option.some.inj h
  have e9 : (-9223372036854775808 : Int64) = r0 := congrArg (fun z9 => z9.1) h9
  rw [← e9]
  have e9 : a_t_numbers_keys = w0 := congrArg (fun z9 => z9.2.1) h9
  rw [← e9]
  have e9 : a_t_numbers_aboves = w1 := congrArg (fun z9 => z9.2.2.1) h9
  rw [← e9]
  have e9 : t_numbers_size = w2 := congrArg (fun z9 => z9.2.2.2.1) h9
  rw [← e9]
  have e9 : t_numbers_sum = w3 := congrArg (fun z9 => z9.2.2.2.2.1) h9
  rw [← e9]
  have e9 : t_numbers_gathered = w4 := congrArg (fun z9 => z9.2.2.2.2.2) h9
  rw [← e9]
  exact k_lret hx hb hr hlocks hP hS rfl dX8_kappa_56

/-! X8_leaves -/
set_option maxHeartbeats 40000000 in
set_option maxRecDepth 100000 in
theorem c_X8_leaves (l : Launch) (G : va_G) (cI cJ cD cH : ClassId) (sz : Nat) (h_t : Nat) (h_t_desk : Nat) (h_t_deeds : Nat) (h_t_deeds_desks : Nat) (h_t_desk_powers : Nat) (h_t_imageDesk : Nat) (h_t_numbers : Nat) (h_t_tape : Nat) (h_t_reader : Nat) (h_t_speller : Nat) (h_t_holders : Nat) (d_t_deeds_desks : Nat → Nat) (q_t_deeds_desks : Nat → Nat) (a_t_deeds_desks : Nat → Nat → Int32) (t_deeds_desks_genus : Nat → Int32) (t_deeds_desks_size : Nat → Int32) (t_deeds_desks_limit : Nat → Int32) (t_deeds_desks_tree : Nat → Int64) (t_imageKept : Int32) (t_desk_genus : Int32) (t_desk_size : Int32) (t_desk_limit : Int32) (t_desk_tree : Int64) (t_deeds_now : Int32) (t_deeds_last : Int32) (a_t_desk_powers : Nat → Int32) (p0 : Int32) (r0 : Int32) (w0 : Int32) (w1 : Int64) (w2 : Int32) (w3 : Int32) (w4 : Nat → Nat → Int32) (w5 : Nat → Nat) (w6 : Nat → Int32) (w7 : Nat → Int32) (w8 : Nat → Nat) (w9 : Nat → Int32) (w10 : Nat → Int64) (hF : F_X8_leaves d_t_deeds_desks q_t_deeds_desks a_t_deeds_desks t_deeds_desks_genus t_deeds_desks_size t_deeds_desks_limit t_deeds_desks_tree t_desk_genus t_desk_size t_desk_limit t_desk_tree t_deeds_now t_deeds_last a_t_desk_powers p0 = some (r0, w0, w1, w2, w3, w4, w5, w6, w7, w8, w9, w10)) : Met l yX8_leaves wsX8_leaves ({ frames := 4, cells := 0, slots := 0, locals := 86 }) (k_pre G (k_T cI cJ cD cH) [(h_t, .inr (7, [.ref h_t_desk, .ref h_t_imageDesk, .ref h_t_deeds, .ref h_t_numbers, .ref h_t_tape, .ref h_t_reader, .ref h_t_speller, .ref h_t_holders, .int t_imageKept])), (h_t_desk, .inr (1, [.int t_desk_genus, .int t_desk_size, .ref h_t_desk_powers, .int t_desk_limit, .long t_desk_tree])), (h_t_deeds, .inr (0, [.ref h_t_deeds_desks, .int t_deeds_now, .int t_deeds_last])), (h_t_deeds_desks, .inl (cD, 9, .inr (.inr (.inr (.inr (fun i => some (d_t_deeds_desks i))))))), ((d_t_deeds_desks 0), .inr (1, [.int (t_deeds_desks_genus 0), .int (t_deeds_desks_size 0), .ref (q_t_deeds_desks 0), .int (t_deeds_desks_limit 0), .long (t_deeds_desks_tree 0)])), ((q_t_deeds_desks 0), .inl (cI, 8, .inl (a_t_deeds_desks 0))), ((d_t_deeds_desks 1), .inr (1, [.int (t_deeds_desks_genus 1), .int (t_deeds_desks_size 1), .ref (q_t_deeds_desks 1), .int (t_deeds_desks_limit 1), .long (t_deeds_desks_tree 1)])), ((q_t_deeds_desks 1), .inl (cI, 8, .inl (a_t_deeds_desks 1))), ((d_t_deeds_desks 2), .inr (1, [.int (t_deeds_desks_genus 2), .int (t_deeds_desks_size 2), .ref (q_t_deeds_desks 2), .int (t_deeds_desks_limit 2), .long (t_deeds_desks_tree 2)])), ((q_t_deeds_desks 2), .inl (cI, 8, .inl (a_t_deeds_desks 2))), ((d_t_deeds_desks 3), .inr (1, [.int (t_deeds_desks_genus 3), .int (t_deeds_desks_size 3), .ref (q_t_deeds_desks 3), .int (t_deeds_desks_limit 3), .long (t_deeds_desks_tree 3)])), ((q_t_deeds_desks 3), .inl (cI, 8, .inl (a_t_deeds_desks 3))), ((d_t_deeds_desks 4), .inr (1, [.int (t_deeds_desks_genus 4), .int (t_deeds_desks_size 4), .ref (q_t_deeds_desks 4), .int (t_deeds_desks_limit 4), .long (t_deeds_desks_tree 4)])), ((q_t_deeds_desks 4), .inl (cI, 8, .inl (a_t_deeds_desks 4))), ((d_t_deeds_desks 5), .inr (1, [.int (t_deeds_desks_genus 5), .int (t_deeds_desks_size 5), .ref (q_t_deeds_desks 5), .int (t_deeds_desks_limit 5), .long (t_deeds_desks_tree 5)])), ((q_t_deeds_desks 5), .inl (cI, 8, .inl (a_t_deeds_desks 5))), ((d_t_deeds_desks 6), .inr (1, [.int (t_deeds_desks_genus 6), .int (t_deeds_desks_size 6), .ref (q_t_deeds_desks 6), .int (t_deeds_desks_limit 6), .long (t_deeds_desks_tree 6)])), ((q_t_deeds_desks 6), .inl (cI, 8, .inl (a_t_deeds_desks 6))), ((d_t_deeds_desks 7), .inr (1, [.int (t_deeds_desks_genus 7), .int (t_deeds_desks_size 7), .ref (q_t_deeds_desks 7), .int (t_deeds_desks_limit 7), .long (t_deeds_desks_tree 7)])), ((q_t_deeds_desks 7), .inl (cI, 8, .inl (a_t_deeds_desks 7))), ((d_t_deeds_desks 8), .inr (1, [.int (t_deeds_desks_genus 8), .int (t_deeds_desks_size 8), .ref (q_t_deeds_desks 8), .int (t_deeds_desks_limit 8), .long (t_deeds_desks_tree 8)])), ((q_t_deeds_desks 8), .inl (cI, 8, .inl (a_t_deeds_desks 8))), (h_t_desk_powers, .inl (cI, 8, .inl a_t_desk_powers))] sz [.ref h_t, .int p0]) (va_Qi (fun r (_ : Unit) => r = r0 ∧ True) (fun _ t => va_P G vwCl [(h_t, .inr (7, [.ref h_t_desk, .ref h_t_imageDesk, .ref h_t_deeds, .ref h_t_numbers, .ref h_t_tape, .ref h_t_reader, .ref h_t_speller, .ref h_t_holders, .int t_imageKept])), (h_t_desk, .inr (1, [.int t_desk_genus, .int t_desk_size, .ref h_t_desk_powers, .int w0, .long w1])), (h_t_deeds, .inr (0, [.ref h_t_deeds_desks, .int w2, .int w3])), (h_t_deeds_desks, .inl (cD, 9, .inr (.inr (.inr (.inr (fun i => some (w5 i))))))), ((w5 0), .inr (1, [.int (w6 0), .int (w9 0), .ref (w8 0), .int (w7 0), .long (w10 0)])), ((w8 0), .inl (cI, 8, .inl (w4 0))), ((w5 1), .inr (1, [.int (w6 1), .int (w9 1), .ref (w8 1), .int (w7 1), .long (w10 1)])), ((w8 1), .inl (cI, 8, .inl (w4 1))), ((w5 2), .inr (1, [.int (w6 2), .int (w9 2), .ref (w8 2), .int (w7 2), .long (w10 2)])), ((w8 2), .inl (cI, 8, .inl (w4 2))), ((w5 3), .inr (1, [.int (w6 3), .int (w9 3), .ref (w8 3), .int (w7 3), .long (w10 3)])), ((w8 3), .inl (cI, 8, .inl (w4 3))), ((w5 4), .inr (1, [.int (w6 4), .int (w9 4), .ref (w8 4), .int (w7 4), .long (w10 4)])), ((w8 4), .inl (cI, 8, .inl (w4 4))), ((w5 5), .inr (1, [.int (w6 5), .int (w9 5), .ref (w8 5), .int (w7 5), .long (w10 5)])), ((w8 5), .inl (cI, 8, .inl (w4 5))), ((w5 6), .inr (1, [.int (w6 6), .int (w9 6), .ref (w8 6), .int (w7 6), .long (w10 6)])), ((w8 6), .inl (cI, 8, .inl (w4 6))), ((w5 7), .inr (1, [.int (w6 7), .int (w9 7), .ref (w8 7), .int (w7 7), .long (w10 7)])), ((w8 7), .inl (cI, 8, .inl (w4 7))), ((w5 8), .inr (1, [.int (w6 8), .int (w9 8), .ref (w8 8), .int (w7 8), .long (w10 8)])), ((w8 8), .inl (cI, 8, .inl (w4 8))), (h_t_desk_powers, .inl (cI, 8, .inl a_t_desk_powers))] t.heap ∧ va_D (va_A [(h_t, .inr (7, [.ref h_t_desk, .ref h_t_imageDesk, .ref h_t_deeds, .ref h_t_numbers, .ref h_t_tape, .ref h_t_reader, .ref h_t_speller, .ref h_t_holders, .int t_imageKept])), (h_t_desk, .inr (1, [.int t_desk_genus, .int t_desk_size, .ref h_t_desk_powers, .int t_desk_limit, .long t_desk_tree])), (h_t_deeds, .inr (0, [.ref h_t_deeds_desks, .int t_deeds_now, .int t_deeds_last])), (h_t_deeds_desks, .inl (cD, 9, .inr (.inr (.inr (.inr (fun i => some (d_t_deeds_desks i))))))), ((d_t_deeds_desks 0), .inr (1, [.int (t_deeds_desks_genus 0), .int (t_deeds_desks_size 0), .ref (q_t_deeds_desks 0), .int (t_deeds_desks_limit 0), .long (t_deeds_desks_tree 0)])), ((q_t_deeds_desks 0), .inl (cI, 8, .inl (a_t_deeds_desks 0))), ((d_t_deeds_desks 1), .inr (1, [.int (t_deeds_desks_genus 1), .int (t_deeds_desks_size 1), .ref (q_t_deeds_desks 1), .int (t_deeds_desks_limit 1), .long (t_deeds_desks_tree 1)])), ((q_t_deeds_desks 1), .inl (cI, 8, .inl (a_t_deeds_desks 1))), ((d_t_deeds_desks 2), .inr (1, [.int (t_deeds_desks_genus 2), .int (t_deeds_desks_size 2), .ref (q_t_deeds_desks 2), .int (t_deeds_desks_limit 2), .long (t_deeds_desks_tree 2)])), ((q_t_deeds_desks 2), .inl (cI, 8, .inl (a_t_deeds_desks 2))), ((d_t_deeds_desks 3), .inr (1, [.int (t_deeds_desks_genus 3), .int (t_deeds_desks_size 3), .ref (q_t_deeds_desks 3), .int (t_deeds_desks_limit 3), .long (t_deeds_desks_tree 3)])), ((q_t_deeds_desks 3), .inl (cI, 8, .inl (a_t_deeds_desks 3))), ((d_t_deeds_desks 4), .inr (1, [.int (t_deeds_desks_genus 4), .int (t_deeds_desks_size 4), .ref (q_t_deeds_desks 4), .int (t_deeds_desks_limit 4), .long (t_deeds_desks_tree 4)])), ((q_t_deeds_desks 4), .inl (cI, 8, .inl (a_t_deeds_desks 4))), ((d_t_deeds_desks 5), .inr (1, [.int (t_deeds_desks_genus 5), .int (t_deeds_desks_size 5), .ref (q_t_deeds_desks 5), .int (t_deeds_desks_limit 5), .long (t_deeds_desks_tree 5)])), ((q_t_deeds_desks 5), .inl (cI, 8, .inl (a_t_deeds_desks 5))), ((d_t_deeds_desks 6), .inr (1, [.int (t_deeds_desks_genus 6), .int (t_deeds_desks_size 6), .ref (q_t_deeds_desks 6), .int (t_deeds_desks_limit 6), .long (t_deeds_desks_tree 6)])), ((q_t_deeds_desks 6), .inl (cI, 8, .inl (a_t_deeds_desks 6))), ((d_t_deeds_desks 7), .inr (1, [.int (t_deeds_desks_genus 7), .int (t_deeds_desks_size 7), .ref (q_t_deeds_desks 7), .int (t_deeds_desks_limit 7), .long (t_deeds_desks_tree 7)])), ((q_t_deeds_desks 7), .inl (cI, 8, .inl (a_t_deeds_desks 7))), ((d_t_deeds_desks 8), .inr (1, [.int (t_deeds_desks_genus 8), .int (t_deeds_desks_size 8), .ref (q_t_deeds_desks 8), .int (t_deeds_desks_limit 8), .long (t_deeds_desks_tree 8)])), ((q_t_deeds_desks 8), .inl (cI, 8, .inl (a_t_deeds_desks 8))), (h_t_desk_powers, .inl (cI, 8, .inl a_t_desk_powers))] sz) [(h_t, .inr (7, [.ref h_t_desk, .ref h_t_imageDesk, .ref h_t_deeds, .ref h_t_numbers, .ref h_t_tape, .ref h_t_reader, .ref h_t_speller, .ref h_t_holders, .int t_imageKept])), (h_t_desk, .inr (1, [.int t_desk_genus, .int t_desk_size, .ref h_t_desk_powers, .int w0, .long w1])), (h_t_deeds, .inr (0, [.ref h_t_deeds_desks, .int w2, .int w3])), (h_t_deeds_desks, .inl (cD, 9, .inr (.inr (.inr (.inr (fun i => some (w5 i))))))), ((w5 0), .inr (1, [.int (w6 0), .int (w9 0), .ref (w8 0), .int (w7 0), .long (w10 0)])), ((w8 0), .inl (cI, 8, .inl (w4 0))), ((w5 1), .inr (1, [.int (w6 1), .int (w9 1), .ref (w8 1), .int (w7 1), .long (w10 1)])), ((w8 1), .inl (cI, 8, .inl (w4 1))), ((w5 2), .inr (1, [.int (w6 2), .int (w9 2), .ref (w8 2), .int (w7 2), .long (w10 2)])), ((w8 2), .inl (cI, 8, .inl (w4 2))), ((w5 3), .inr (1, [.int (w6 3), .int (w9 3), .ref (w8 3), .int (w7 3), .long (w10 3)])), ((w8 3), .inl (cI, 8, .inl (w4 3))), ((w5 4), .inr (1, [.int (w6 4), .int (w9 4), .ref (w8 4), .int (w7 4), .long (w10 4)])), ((w8 4), .inl (cI, 8, .inl (w4 4))), ((w5 5), .inr (1, [.int (w6 5), .int (w9 5), .ref (w8 5), .int (w7 5), .long (w10 5)])), ((w8 5), .inl (cI, 8, .inl (w4 5))), ((w5 6), .inr (1, [.int (w6 6), .int (w9 6), .ref (w8 6), .int (w7 6), .long (w10 6)])), ((w8 6), .inl (cI, 8, .inl (w4 6))), ((w5 7), .inr (1, [.int (w6 7), .int (w9 7), .ref (w8 7), .int (w7 7), .long (w10 7)])), ((w8 7), .inl (cI, 8, .inl (w4 7))), ((w5 8), .inr (1, [.int (w6 8), .int (w9 8), .ref (w8 8), .int (w7 8), .long (w10 8)])), ((w8 8), .inl (cI, 8, .inl (w4 8))), (h_t_desk_powers, .inl (cI, 8, .inl a_t_desk_powers))]) (va_A [(h_t, .inr (7, [.ref h_t_desk, .ref h_t_imageDesk, .ref h_t_deeds, .ref h_t_numbers, .ref h_t_tape, .ref h_t_reader, .ref h_t_speller, .ref h_t_holders, .int t_imageKept])), (h_t_desk, .inr (1, [.int t_desk_genus, .int t_desk_size, .ref h_t_desk_powers, .int t_desk_limit, .long t_desk_tree])), (h_t_deeds, .inr (0, [.ref h_t_deeds_desks, .int t_deeds_now, .int t_deeds_last])), (h_t_deeds_desks, .inl (cD, 9, .inr (.inr (.inr (.inr (fun i => some (d_t_deeds_desks i))))))), ((d_t_deeds_desks 0), .inr (1, [.int (t_deeds_desks_genus 0), .int (t_deeds_desks_size 0), .ref (q_t_deeds_desks 0), .int (t_deeds_desks_limit 0), .long (t_deeds_desks_tree 0)])), ((q_t_deeds_desks 0), .inl (cI, 8, .inl (a_t_deeds_desks 0))), ((d_t_deeds_desks 1), .inr (1, [.int (t_deeds_desks_genus 1), .int (t_deeds_desks_size 1), .ref (q_t_deeds_desks 1), .int (t_deeds_desks_limit 1), .long (t_deeds_desks_tree 1)])), ((q_t_deeds_desks 1), .inl (cI, 8, .inl (a_t_deeds_desks 1))), ((d_t_deeds_desks 2), .inr (1, [.int (t_deeds_desks_genus 2), .int (t_deeds_desks_size 2), .ref (q_t_deeds_desks 2), .int (t_deeds_desks_limit 2), .long (t_deeds_desks_tree 2)])), ((q_t_deeds_desks 2), .inl (cI, 8, .inl (a_t_deeds_desks 2))), ((d_t_deeds_desks 3), .inr (1, [.int (t_deeds_desks_genus 3), .int (t_deeds_desks_size 3), .ref (q_t_deeds_desks 3), .int (t_deeds_desks_limit 3), .long (t_deeds_desks_tree 3)])), ((q_t_deeds_desks 3), .inl (cI, 8, .inl (a_t_deeds_desks 3))), ((d_t_deeds_desks 4), .inr (1, [.int (t_deeds_desks_genus 4), .int (t_deeds_desks_size 4), .ref (q_t_deeds_desks 4), .int (t_deeds_desks_limit 4), .long (t_deeds_desks_tree 4)])), ((q_t_deeds_desks 4), .inl (cI, 8, .inl (a_t_deeds_desks 4))), ((d_t_deeds_desks 5), .inr (1, [.int (t_deeds_desks_genus 5), .int (t_deeds_desks_size 5), .ref (q_t_deeds_desks 5), .int (t_deeds_desks_limit 5), .long (t_deeds_desks_tree 5)])), ((q_t_deeds_desks 5), .inl (cI, 8, .inl (a_t_deeds_desks 5))), ((d_t_deeds_desks 6), .inr (1, [.int (t_deeds_desks_genus 6), .int (t_deeds_desks_size 6), .ref (q_t_deeds_desks 6), .int (t_deeds_desks_limit 6), .long (t_deeds_desks_tree 6)])), ((q_t_deeds_desks 6), .inl (cI, 8, .inl (a_t_deeds_desks 6))), ((d_t_deeds_desks 7), .inr (1, [.int (t_deeds_desks_genus 7), .int (t_deeds_desks_size 7), .ref (q_t_deeds_desks 7), .int (t_deeds_desks_limit 7), .long (t_deeds_desks_tree 7)])), ((q_t_deeds_desks 7), .inl (cI, 8, .inl (a_t_deeds_desks 7))), ((d_t_deeds_desks 8), .inr (1, [.int (t_deeds_desks_genus 8), .int (t_deeds_desks_size 8), .ref (q_t_deeds_desks 8), .int (t_deeds_desks_limit 8), .long (t_deeds_desks_tree 8)])), ((q_t_deeds_desks 8), .inl (cI, 8, .inl (a_t_deeds_desks 8))), (h_t_desk_powers, .inl (cI, 8, .inl a_t_desk_powers))] sz)) 0 0 (va_A [(h_t, .inr (7, [.ref h_t_desk, .ref h_t_imageDesk, .ref h_t_deeds, .ref h_t_numbers, .ref h_t_tape, .ref h_t_reader, .ref h_t_speller, .ref h_t_holders, .int t_imageKept])), (h_t_desk, .inr (1, [.int t_desk_genus, .int t_desk_size, .ref h_t_desk_powers, .int t_desk_limit, .long t_desk_tree])), (h_t_deeds, .inr (0, [.ref h_t_deeds_desks, .int t_deeds_now, .int t_deeds_last])), (h_t_deeds_desks, .inl (cD, 9, .inr (.inr (.inr (.inr (fun i => some (d_t_deeds_desks i))))))), ((d_t_deeds_desks 0), .inr (1, [.int (t_deeds_desks_genus 0), .int (t_deeds_desks_size 0), .ref (q_t_deeds_desks 0), .int (t_deeds_desks_limit 0), .long (t_deeds_desks_tree 0)])), ((q_t_deeds_desks 0), .inl (cI, 8, .inl (a_t_deeds_desks 0))), ((d_t_deeds_desks 1), .inr (1, [.int (t_deeds_desks_genus 1), .int (t_deeds_desks_size 1), .ref (q_t_deeds_desks 1), .int (t_deeds_desks_limit 1), .long (t_deeds_desks_tree 1)])), ((q_t_deeds_desks 1), .inl (cI, 8, .inl (a_t_deeds_desks 1))), ((d_t_deeds_desks 2), .inr (1, [.int (t_deeds_desks_genus 2), .int (t_deeds_desks_size 2), .ref (q_t_deeds_desks 2), .int (t_deeds_desks_limit 2), .long (t_deeds_desks_tree 2)])), ((q_t_deeds_desks 2), .inl (cI, 8, .inl (a_t_deeds_desks 2))), ((d_t_deeds_desks 3), .inr (1, [.int (t_deeds_desks_genus 3), .int (t_deeds_desks_size 3), .ref (q_t_deeds_desks 3), .int (t_deeds_desks_limit 3), .long (t_deeds_desks_tree 3)])), ((q_t_deeds_desks 3), .inl (cI, 8, .inl (a_t_deeds_desks 3))), ((d_t_deeds_desks 4), .inr (1, [.int (t_deeds_desks_genus 4), .int (t_deeds_desks_size 4), .ref (q_t_deeds_desks 4), .int (t_deeds_desks_limit 4), .long (t_deeds_desks_tree 4)])), ((q_t_deeds_desks 4), .inl (cI, 8, .inl (a_t_deeds_desks 4))), ((d_t_deeds_desks 5), .inr (1, [.int (t_deeds_desks_genus 5), .int (t_deeds_desks_size 5), .ref (q_t_deeds_desks 5), .int (t_deeds_desks_limit 5), .long (t_deeds_desks_tree 5)])), ((q_t_deeds_desks 5), .inl (cI, 8, .inl (a_t_deeds_desks 5))), ((d_t_deeds_desks 6), .inr (1, [.int (t_deeds_desks_genus 6), .int (t_deeds_desks_size 6), .ref (q_t_deeds_desks 6), .int (t_deeds_desks_limit 6), .long (t_deeds_desks_tree 6)])), ((q_t_deeds_desks 6), .inl (cI, 8, .inl (a_t_deeds_desks 6))), ((d_t_deeds_desks 7), .inr (1, [.int (t_deeds_desks_genus 7), .int (t_deeds_desks_size 7), .ref (q_t_deeds_desks 7), .int (t_deeds_desks_limit 7), .long (t_deeds_desks_tree 7)])), ((q_t_deeds_desks 7), .inl (cI, 8, .inl (a_t_deeds_desks 7))), ((d_t_deeds_desks 8), .inr (1, [.int (t_deeds_desks_genus 8), .int (t_deeds_desks_size 8), .ref (q_t_deeds_desks 8), .int (t_deeds_desks_limit 8), .long (t_deeds_desks_tree 8)])), ((q_t_deeds_desks 8), .inl (cI, 8, .inl (a_t_deeds_desks 8))), (h_t_desk_powers, .inl (cI, 8, .inl a_t_desk_powers))] sz) := by
  refine Met.ofW (cc := cX8_leaves) (maxL := 3) (ret := (some .int)) (by decide) rfl ?_
  intro p e s m args below meth c s₁ B hml hv
  obtain ⟨rfl, hsz, hP, hK, hD0⟩ := hv
  have hx := B.exec
  have hb := B.bytes
  have hr := B.returns
  have hts := atoms_spec (ws := wsX8_leaves) B.pre
  have hta : ∀ w ∈ wA, w.before ([.ref h_t, .int p0] : List Value).toArray s = true := hta_of hts
  have hown : s.vm.findClass RX8 = some m.cls := findClass_of_methodNamed B.named
  have hlocks := B.notSynchronized
  subst hsz
  have hD := hD0.self (sz := s.heap.size)
  generalize hAe : va_A [(h_t, .inr (7, [.ref h_t_desk, .ref h_t_imageDesk, .ref h_t_deeds, .ref h_t_numbers, .ref h_t_tape, .ref h_t_reader, .ref h_t_speller, .ref h_t_holders, .int t_imageKept])), (h_t_desk, .inr (1, [.int t_desk_genus, .int t_desk_size, .ref h_t_desk_powers, .int t_desk_limit, .long t_desk_tree])), (h_t_deeds, .inr (0, [.ref h_t_deeds_desks, .int t_deeds_now, .int t_deeds_last])), (h_t_deeds_desks, .inl (cD, 9, .inr (.inr (.inr (.inr (fun i => some (d_t_deeds_desks i))))))), ((d_t_deeds_desks 0), .inr (1, [.int (t_deeds_desks_genus 0), .int (t_deeds_desks_size 0), .ref (q_t_deeds_desks 0), .int (t_deeds_desks_limit 0), .long (t_deeds_desks_tree 0)])), ((q_t_deeds_desks 0), .inl (cI, 8, .inl (a_t_deeds_desks 0))), ((d_t_deeds_desks 1), .inr (1, [.int (t_deeds_desks_genus 1), .int (t_deeds_desks_size 1), .ref (q_t_deeds_desks 1), .int (t_deeds_desks_limit 1), .long (t_deeds_desks_tree 1)])), ((q_t_deeds_desks 1), .inl (cI, 8, .inl (a_t_deeds_desks 1))), ((d_t_deeds_desks 2), .inr (1, [.int (t_deeds_desks_genus 2), .int (t_deeds_desks_size 2), .ref (q_t_deeds_desks 2), .int (t_deeds_desks_limit 2), .long (t_deeds_desks_tree 2)])), ((q_t_deeds_desks 2), .inl (cI, 8, .inl (a_t_deeds_desks 2))), ((d_t_deeds_desks 3), .inr (1, [.int (t_deeds_desks_genus 3), .int (t_deeds_desks_size 3), .ref (q_t_deeds_desks 3), .int (t_deeds_desks_limit 3), .long (t_deeds_desks_tree 3)])), ((q_t_deeds_desks 3), .inl (cI, 8, .inl (a_t_deeds_desks 3))), ((d_t_deeds_desks 4), .inr (1, [.int (t_deeds_desks_genus 4), .int (t_deeds_desks_size 4), .ref (q_t_deeds_desks 4), .int (t_deeds_desks_limit 4), .long (t_deeds_desks_tree 4)])), ((q_t_deeds_desks 4), .inl (cI, 8, .inl (a_t_deeds_desks 4))), ((d_t_deeds_desks 5), .inr (1, [.int (t_deeds_desks_genus 5), .int (t_deeds_desks_size 5), .ref (q_t_deeds_desks 5), .int (t_deeds_desks_limit 5), .long (t_deeds_desks_tree 5)])), ((q_t_deeds_desks 5), .inl (cI, 8, .inl (a_t_deeds_desks 5))), ((d_t_deeds_desks 6), .inr (1, [.int (t_deeds_desks_genus 6), .int (t_deeds_desks_size 6), .ref (q_t_deeds_desks 6), .int (t_deeds_desks_limit 6), .long (t_deeds_desks_tree 6)])), ((q_t_deeds_desks 6), .inl (cI, 8, .inl (a_t_deeds_desks 6))), ((d_t_deeds_desks 7), .inr (1, [.int (t_deeds_desks_genus 7), .int (t_deeds_desks_size 7), .ref (q_t_deeds_desks 7), .int (t_deeds_desks_limit 7), .long (t_deeds_desks_tree 7)])), ((q_t_deeds_desks 7), .inl (cI, 8, .inl (a_t_deeds_desks 7))), ((d_t_deeds_desks 8), .inr (1, [.int (t_deeds_desks_genus 8), .int (t_deeds_desks_size 8), .ref (q_t_deeds_desks 8), .int (t_deeds_desks_limit 8), .long (t_deeds_desks_tree 8)])), ((q_t_deeds_desks 8), .inl (cI, 8, .inl (a_t_deeds_desks 8))), (h_t_desk_powers, .inl (cI, 8, .inl a_t_desk_powers))] s.heap.size = A at hD ⊢
  have hA : ∀ q : Nat, s.heap.size ≤ q → A q := fun q h => by rw [← hAe]; exact Or.inr h
  have hS : va_S A s.heap s.heap [] := va_S.rf
  have hl := lv_entry ([.ref h_t, .int p0]) (n := 3) (Nat.le_of_ble_eq_true rfl)
  rw [lg_entry_eq]
  generalize (lg_sl ([.ref h_t, .int p0]) ++ List.replicate (3 - (lg_sl ([.ref h_t, .int p0])).length) Slot.unset).toArray = ls at hl ⊢
  have hl : lv_has ls 3 [(0, .ref h_t), (1, .int p0)] := hl
  have hinX1 : ∀ w ∈ wsX10, w ∈ wsX8_leaves := hin_of in_X1
  have hinX8 : ∀ w ∈ wsX80, w ∈ wsX8_leaves := hin_of in_X8
  have h := hF
  unfold F_X8_leaves at h
  refine lv_iload_n hx hb dX8_leaves_0 rfl (lv_at hl 1 rfl) ?_
  obtain ⟨x1, hx1, h⟩ := bd_e h
  try dsimp only at h
  refine k_SiU (n := 1) (As := [.int p0]) (rest := []) hx hb hml hown hts (c_X6_isLeafCount l G cI cJ cD cH s.heap.size p0 x1 hx1) gX8_leaves_X6_isLeafCount rfl rfl rfl (by decide +kernel) ⟨by first | exact Nat.le_of_ble_eq_true rfl | (simp only [headSpec]; omega), by first | exact Nat.le_of_ble_eq_true rfl | (simp only [headSpec]; omega)⟩ hK hP hD hS hA [] (by decide) rfl rfl rfl hl.1 (Nat.le_of_ble_eq_true rfl) dX8_leaves_1 ⟨Nat.zero_le _, Nat.zero_le _⟩ (fun hp1 H locs hP hS => ?_)
  refine lv_if_ne (tgt := 9) hx hb dX8_leaves_4 (by decide) (fun c2 => ?_) (fun c2 => ?_)
  rotate_left
  · have h := it_p h c2
    refine lv_iconst (v := (-1 : Int32)) hx hb dX8_leaves_7 (by decide) ?_
    have h9 := Option.some.inj h
    have e9 : (-1 : Int32) = r0 := congrArg (fun z9 => z9.1) h9
    rw [← e9]
    have e9 : t_desk_limit = w0 := congrArg (fun z9 => z9.2.1) h9
    rw [← e9]
    have e9 : t_desk_tree = w1 := congrArg (fun z9 => z9.2.2.1) h9
    rw [← e9]
    have e9 : t_deeds_now = w2 := congrArg (fun z9 => z9.2.2.2.1) h9
    rw [← e9]
    have e9 : t_deeds_last = w3 := congrArg (fun z9 => z9.2.2.2.2.1) h9
    rw [← e9]
    have e9 : a_t_deeds_desks = w4 := congrArg (fun z9 => z9.2.2.2.2.2.1) h9
    rw [← e9]
    have e9 : d_t_deeds_desks = w5 := congrArg (fun z9 => z9.2.2.2.2.2.2.1) h9
    rw [← e9]
    have e9 : t_deeds_desks_genus = w6 := congrArg (fun z9 => z9.2.2.2.2.2.2.2.1) h9
    rw [← e9]
    have e9 : t_deeds_desks_limit = w7 := congrArg (fun z9 => z9.2.2.2.2.2.2.2.2.1) h9
    rw [← e9]
    have e9 : q_t_deeds_desks = w8 := congrArg (fun z9 => z9.2.2.2.2.2.2.2.2.2.1) h9
    rw [← e9]
    have e9 : t_deeds_desks_size = w9 := congrArg (fun z9 => z9.2.2.2.2.2.2.2.2.2.2.1) h9
    rw [← e9]
    have e9 : t_deeds_desks_tree = w10 := congrArg (fun z9 => z9.2.2.2.2.2.2.2.2.2.2.2) h9
    rw [← e9]
    exact k_iretP hx hb hr hlocks hD hP hS rfl dX8_leaves_8
  have h := it_n h c2
  refine lv_aload_n hx hb dX8_leaves_9 rfl (lv_at hl 0 rfl) ?_
  refine va_get (D := G) (ci := 7) (v := .ref h_t_desk) (C := RX8) (T := TX8) (N := 9) hx hb hts hinX8 hown hK hP 0 rfl rfl 0 (by decide) (hta _ mw_358) (fun _ h9 => h9) rfl dX8_leaves_10 ?_
  refine va_get (D := G) (ci := 1) (v := .int t_desk_limit) (C := RX1) (T := TX1) (N := 5) hx hb hts hinX1 hown hK hP 1 rfl rfl 3 (by decide) (hta _ mw_479) (fun _ h9 => h9) rfl dX8_leaves_13 ?_
  refine lv_istore_n (lv' := [(2, .int t_desk_limit), (0, .ref h_t), (1, .int p0)]) hx hb dX8_leaves_16 rfl hl (by decide) rfl (fun ls hl => ?_)
  refine lv_aload_n hx hb dX8_leaves_17 rfl (lv_at hl 1 rfl) ?_
  refine va_get (D := G) (ci := 7) (v := .ref h_t_desk) (C := RX8) (T := TX8) (N := 9) hx hb hts hinX8 hown hK hP 0 rfl rfl 0 (by decide) (hta _ mw_358) (fun _ h9 => h9) rfl dX8_leaves_18 ?_
  refine lv_iload_n hx hb dX8_leaves_21 rfl (lv_at hl 2 rfl) ?_
  refine va_put (D := G) (ci := 1) (v := .int p0) (ty := .int) (C := RX1) (T := TX1) (N := 5) hx hb hts hinX1 tyX1 tyX1_ok nmX1 hown hK hP hD hS 1 rfl rfl 3 (by decide) (hta _ mw_479) (fun _ h9 => h9) rfl (by decide +kernel) rfl rfl (Nat.le_of_ble_eq_true rfl) dX8_leaves_22 (fun H locs hP hD hS => ?_)
  have hP : va_P G vwCl [(h_t, .inr (7, [.ref h_t_desk, .ref h_t_imageDesk, .ref h_t_deeds, .ref h_t_numbers, .ref h_t_tape, .ref h_t_reader, .ref h_t_speller, .ref h_t_holders, .int t_imageKept])), (h_t_desk, .inr (1, [.int t_desk_genus, .int t_desk_size, .ref h_t_desk_powers, .int p0, .long t_desk_tree])), (h_t_deeds, .inr (0, [.ref h_t_deeds_desks, .int t_deeds_now, .int t_deeds_last])), (h_t_deeds_desks, .inl (cD, 9, .inr (.inr (.inr (.inr (fun i => some (d_t_deeds_desks i))))))), ((d_t_deeds_desks 0), .inr (1, [.int (t_deeds_desks_genus 0), .int (t_deeds_desks_size 0), .ref (q_t_deeds_desks 0), .int (t_deeds_desks_limit 0), .long (t_deeds_desks_tree 0)])), ((q_t_deeds_desks 0), .inl (cI, 8, .inl (a_t_deeds_desks 0))), ((d_t_deeds_desks 1), .inr (1, [.int (t_deeds_desks_genus 1), .int (t_deeds_desks_size 1), .ref (q_t_deeds_desks 1), .int (t_deeds_desks_limit 1), .long (t_deeds_desks_tree 1)])), ((q_t_deeds_desks 1), .inl (cI, 8, .inl (a_t_deeds_desks 1))), ((d_t_deeds_desks 2), .inr (1, [.int (t_deeds_desks_genus 2), .int (t_deeds_desks_size 2), .ref (q_t_deeds_desks 2), .int (t_deeds_desks_limit 2), .long (t_deeds_desks_tree 2)])), ((q_t_deeds_desks 2), .inl (cI, 8, .inl (a_t_deeds_desks 2))), ((d_t_deeds_desks 3), .inr (1, [.int (t_deeds_desks_genus 3), .int (t_deeds_desks_size 3), .ref (q_t_deeds_desks 3), .int (t_deeds_desks_limit 3), .long (t_deeds_desks_tree 3)])), ((q_t_deeds_desks 3), .inl (cI, 8, .inl (a_t_deeds_desks 3))), ((d_t_deeds_desks 4), .inr (1, [.int (t_deeds_desks_genus 4), .int (t_deeds_desks_size 4), .ref (q_t_deeds_desks 4), .int (t_deeds_desks_limit 4), .long (t_deeds_desks_tree 4)])), ((q_t_deeds_desks 4), .inl (cI, 8, .inl (a_t_deeds_desks 4))), ((d_t_deeds_desks 5), .inr (1, [.int (t_deeds_desks_genus 5), .int (t_deeds_desks_size 5), .ref (q_t_deeds_desks 5), .int (t_deeds_desks_limit 5), .long (t_deeds_desks_tree 5)])), ((q_t_deeds_desks 5), .inl (cI, 8, .inl (a_t_deeds_desks 5))), ((d_t_deeds_desks 6), .inr (1, [.int (t_deeds_desks_genus 6), .int (t_deeds_desks_size 6), .ref (q_t_deeds_desks 6), .int (t_deeds_desks_limit 6), .long (t_deeds_desks_tree 6)])), ((q_t_deeds_desks 6), .inl (cI, 8, .inl (a_t_deeds_desks 6))), ((d_t_deeds_desks 7), .inr (1, [.int (t_deeds_desks_genus 7), .int (t_deeds_desks_size 7), .ref (q_t_deeds_desks 7), .int (t_deeds_desks_limit 7), .long (t_deeds_desks_tree 7)])), ((q_t_deeds_desks 7), .inl (cI, 8, .inl (a_t_deeds_desks 7))), ((d_t_deeds_desks 8), .inr (1, [.int (t_deeds_desks_genus 8), .int (t_deeds_desks_size 8), .ref (q_t_deeds_desks 8), .int (t_deeds_desks_limit 8), .long (t_deeds_desks_tree 8)])), ((q_t_deeds_desks 8), .inl (cI, 8, .inl (a_t_deeds_desks 8))), (h_t_desk_powers, .inl (cI, 8, .inl a_t_desk_powers))] H := hP
  have hD : va_D A [(h_t, .inr (7, [.ref h_t_desk, .ref h_t_imageDesk, .ref h_t_deeds, .ref h_t_numbers, .ref h_t_tape, .ref h_t_reader, .ref h_t_speller, .ref h_t_holders, .int t_imageKept])), (h_t_desk, .inr (1, [.int t_desk_genus, .int t_desk_size, .ref h_t_desk_powers, .int p0, .long t_desk_tree])), (h_t_deeds, .inr (0, [.ref h_t_deeds_desks, .int t_deeds_now, .int t_deeds_last])), (h_t_deeds_desks, .inl (cD, 9, .inr (.inr (.inr (.inr (fun i => some (d_t_deeds_desks i))))))), ((d_t_deeds_desks 0), .inr (1, [.int (t_deeds_desks_genus 0), .int (t_deeds_desks_size 0), .ref (q_t_deeds_desks 0), .int (t_deeds_desks_limit 0), .long (t_deeds_desks_tree 0)])), ((q_t_deeds_desks 0), .inl (cI, 8, .inl (a_t_deeds_desks 0))), ((d_t_deeds_desks 1), .inr (1, [.int (t_deeds_desks_genus 1), .int (t_deeds_desks_size 1), .ref (q_t_deeds_desks 1), .int (t_deeds_desks_limit 1), .long (t_deeds_desks_tree 1)])), ((q_t_deeds_desks 1), .inl (cI, 8, .inl (a_t_deeds_desks 1))), ((d_t_deeds_desks 2), .inr (1, [.int (t_deeds_desks_genus 2), .int (t_deeds_desks_size 2), .ref (q_t_deeds_desks 2), .int (t_deeds_desks_limit 2), .long (t_deeds_desks_tree 2)])), ((q_t_deeds_desks 2), .inl (cI, 8, .inl (a_t_deeds_desks 2))), ((d_t_deeds_desks 3), .inr (1, [.int (t_deeds_desks_genus 3), .int (t_deeds_desks_size 3), .ref (q_t_deeds_desks 3), .int (t_deeds_desks_limit 3), .long (t_deeds_desks_tree 3)])), ((q_t_deeds_desks 3), .inl (cI, 8, .inl (a_t_deeds_desks 3))), ((d_t_deeds_desks 4), .inr (1, [.int (t_deeds_desks_genus 4), .int (t_deeds_desks_size 4), .ref (q_t_deeds_desks 4), .int (t_deeds_desks_limit 4), .long (t_deeds_desks_tree 4)])), ((q_t_deeds_desks 4), .inl (cI, 8, .inl (a_t_deeds_desks 4))), ((d_t_deeds_desks 5), .inr (1, [.int (t_deeds_desks_genus 5), .int (t_deeds_desks_size 5), .ref (q_t_deeds_desks 5), .int (t_deeds_desks_limit 5), .long (t_deeds_desks_tree 5)])), ((q_t_deeds_desks 5), .inl (cI, 8, .inl (a_t_deeds_desks 5))), ((d_t_deeds_desks 6), .inr (1, [.int (t_deeds_desks_genus 6), .int (t_deeds_desks_size 6), .ref (q_t_deeds_desks 6), .int (t_deeds_desks_limit 6), .long (t_deeds_desks_tree 6)])), ((q_t_deeds_desks 6), .inl (cI, 8, .inl (a_t_deeds_desks 6))), ((d_t_deeds_desks 7), .inr (1, [.int (t_deeds_desks_genus 7), .int (t_deeds_desks_size 7), .ref (q_t_deeds_desks 7), .int (t_deeds_desks_limit 7), .long (t_deeds_desks_tree 7)])), ((q_t_deeds_desks 7), .inl (cI, 8, .inl (a_t_deeds_desks 7))), ((d_t_deeds_desks 8), .inr (1, [.int (t_deeds_desks_genus 8), .int (t_deeds_desks_size 8), .ref (q_t_deeds_desks 8), .int (t_deeds_desks_limit 8), .long (t_deeds_desks_tree 8)])), ((q_t_deeds_desks 8), .inl (cI, 8, .inl (a_t_deeds_desks 8))), (h_t_desk_powers, .inl (cI, 8, .inl a_t_desk_powers))] := hD
  refine lv_aload_n hx hb dX8_leaves_25 rfl (lv_at hl 1 rfl) ?_
  refine va_get (D := G) (ci := 7) (v := .ref h_t_desk) (C := RX8) (T := TX8) (N := 9) hx hb hts hinX8 hown hK hP 0 rfl rfl 0 (by decide) (hta _ mw_358) (fun _ h9 => h9) rfl dX8_leaves_26 ?_
  refine lv_lconst (v := (0 : Int64)) hx hb dX8_leaves_29 (by decide) ?_
  refine va_put (D := G) (ci := 1) (v := .long (0 : Int64)) (ty := .long) (C := RX1) (T := TX1) (N := 5) hx hb hts hinX1 tyX1 tyX1_ok nmX1 hown hK hP hD hS 1 rfl rfl 4 (by decide) (hta _ mw_480) (fun _ h9 => h9) rfl (by decide +kernel) rfl rfl (Nat.le_of_ble_eq_true rfl) dX8_leaves_30 (fun H locs hP hD hS => ?_)
  have hP : va_P G vwCl [(h_t, .inr (7, [.ref h_t_desk, .ref h_t_imageDesk, .ref h_t_deeds, .ref h_t_numbers, .ref h_t_tape, .ref h_t_reader, .ref h_t_speller, .ref h_t_holders, .int t_imageKept])), (h_t_desk, .inr (1, [.int t_desk_genus, .int t_desk_size, .ref h_t_desk_powers, .int p0, .long (0 : Int64)])), (h_t_deeds, .inr (0, [.ref h_t_deeds_desks, .int t_deeds_now, .int t_deeds_last])), (h_t_deeds_desks, .inl (cD, 9, .inr (.inr (.inr (.inr (fun i => some (d_t_deeds_desks i))))))), ((d_t_deeds_desks 0), .inr (1, [.int (t_deeds_desks_genus 0), .int (t_deeds_desks_size 0), .ref (q_t_deeds_desks 0), .int (t_deeds_desks_limit 0), .long (t_deeds_desks_tree 0)])), ((q_t_deeds_desks 0), .inl (cI, 8, .inl (a_t_deeds_desks 0))), ((d_t_deeds_desks 1), .inr (1, [.int (t_deeds_desks_genus 1), .int (t_deeds_desks_size 1), .ref (q_t_deeds_desks 1), .int (t_deeds_desks_limit 1), .long (t_deeds_desks_tree 1)])), ((q_t_deeds_desks 1), .inl (cI, 8, .inl (a_t_deeds_desks 1))), ((d_t_deeds_desks 2), .inr (1, [.int (t_deeds_desks_genus 2), .int (t_deeds_desks_size 2), .ref (q_t_deeds_desks 2), .int (t_deeds_desks_limit 2), .long (t_deeds_desks_tree 2)])), ((q_t_deeds_desks 2), .inl (cI, 8, .inl (a_t_deeds_desks 2))), ((d_t_deeds_desks 3), .inr (1, [.int (t_deeds_desks_genus 3), .int (t_deeds_desks_size 3), .ref (q_t_deeds_desks 3), .int (t_deeds_desks_limit 3), .long (t_deeds_desks_tree 3)])), ((q_t_deeds_desks 3), .inl (cI, 8, .inl (a_t_deeds_desks 3))), ((d_t_deeds_desks 4), .inr (1, [.int (t_deeds_desks_genus 4), .int (t_deeds_desks_size 4), .ref (q_t_deeds_desks 4), .int (t_deeds_desks_limit 4), .long (t_deeds_desks_tree 4)])), ((q_t_deeds_desks 4), .inl (cI, 8, .inl (a_t_deeds_desks 4))), ((d_t_deeds_desks 5), .inr (1, [.int (t_deeds_desks_genus 5), .int (t_deeds_desks_size 5), .ref (q_t_deeds_desks 5), .int (t_deeds_desks_limit 5), .long (t_deeds_desks_tree 5)])), ((q_t_deeds_desks 5), .inl (cI, 8, .inl (a_t_deeds_desks 5))), ((d_t_deeds_desks 6), .inr (1, [.int (t_deeds_desks_genus 6), .int (t_deeds_desks_size 6), .ref (q_t_deeds_desks 6), .int (t_deeds_desks_limit 6), .long (t_deeds_desks_tree 6)])), ((q_t_deeds_desks 6), .inl (cI, 8, .inl (a_t_deeds_desks 6))), ((d_t_deeds_desks 7), .inr (1, [.int (t_deeds_desks_genus 7), .int (t_deeds_desks_size 7), .ref (q_t_deeds_desks 7), .int (t_deeds_desks_limit 7), .long (t_deeds_desks_tree 7)])), ((q_t_deeds_desks 7), .inl (cI, 8, .inl (a_t_deeds_desks 7))), ((d_t_deeds_desks 8), .inr (1, [.int (t_deeds_desks_genus 8), .int (t_deeds_desks_size 8), .ref (q_t_deeds_desks 8), .int (t_deeds_desks_limit 8), .long (t_deeds_desks_tree 8)])), ((q_t_deeds_desks 8), .inl (cI, 8, .inl (a_t_deeds_desks 8))), (h_t_desk_powers, .inl (cI, 8, .inl a_t_desk_powers))] H := hP
  have hD : va_D A [(h_t, .inr (7, [.ref h_t_desk, .ref h_t_imageDesk, .ref h_t_deeds, .ref h_t_numbers, .ref h_t_tape, .ref h_t_reader, .ref h_t_speller, .ref h_t_holders, .int t_imageKept])), (h_t_desk, .inr (1, [.int t_desk_genus, .int t_desk_size, .ref h_t_desk_powers, .int p0, .long (0 : Int64)])), (h_t_deeds, .inr (0, [.ref h_t_deeds_desks, .int t_deeds_now, .int t_deeds_last])), (h_t_deeds_desks, .inl (cD, 9, .inr (.inr (.inr (.inr (fun i => some (d_t_deeds_desks i))))))), ((d_t_deeds_desks 0), .inr (1, [.int (t_deeds_desks_genus 0), .int (t_deeds_desks_size 0), .ref (q_t_deeds_desks 0), .int (t_deeds_desks_limit 0), .long (t_deeds_desks_tree 0)])), ((q_t_deeds_desks 0), .inl (cI, 8, .inl (a_t_deeds_desks 0))), ((d_t_deeds_desks 1), .inr (1, [.int (t_deeds_desks_genus 1), .int (t_deeds_desks_size 1), .ref (q_t_deeds_desks 1), .int (t_deeds_desks_limit 1), .long (t_deeds_desks_tree 1)])), ((q_t_deeds_desks 1), .inl (cI, 8, .inl (a_t_deeds_desks 1))), ((d_t_deeds_desks 2), .inr (1, [.int (t_deeds_desks_genus 2), .int (t_deeds_desks_size 2), .ref (q_t_deeds_desks 2), .int (t_deeds_desks_limit 2), .long (t_deeds_desks_tree 2)])), ((q_t_deeds_desks 2), .inl (cI, 8, .inl (a_t_deeds_desks 2))), ((d_t_deeds_desks 3), .inr (1, [.int (t_deeds_desks_genus 3), .int (t_deeds_desks_size 3), .ref (q_t_deeds_desks 3), .int (t_deeds_desks_limit 3), .long (t_deeds_desks_tree 3)])), ((q_t_deeds_desks 3), .inl (cI, 8, .inl (a_t_deeds_desks 3))), ((d_t_deeds_desks 4), .inr (1, [.int (t_deeds_desks_genus 4), .int (t_deeds_desks_size 4), .ref (q_t_deeds_desks 4), .int (t_deeds_desks_limit 4), .long (t_deeds_desks_tree 4)])), ((q_t_deeds_desks 4), .inl (cI, 8, .inl (a_t_deeds_desks 4))), ((d_t_deeds_desks 5), .inr (1, [.int (t_deeds_desks_genus 5), .int (t_deeds_desks_size 5), .ref (q_t_deeds_desks 5), .int (t_deeds_desks_limit 5), .long (t_deeds_desks_tree 5)])), ((q_t_deeds_desks 5), .inl (cI, 8, .inl (a_t_deeds_desks 5))), ((d_t_deeds_desks 6), .inr (1, [.int (t_deeds_desks_genus 6), .int (t_deeds_desks_size 6), .ref (q_t_deeds_desks 6), .int (t_deeds_desks_limit 6), .long (t_deeds_desks_tree 6)])), ((q_t_deeds_desks 6), .inl (cI, 8, .inl (a_t_deeds_desks 6))), ((d_t_deeds_desks 7), .inr (1, [.int (t_deeds_desks_genus 7), .int (t_deeds_desks_size 7), .ref (q_t_deeds_desks 7), .int (t_deeds_desks_limit 7), .long (t_deeds_desks_tree 7)])), ((q_t_deeds_desks 7), .inl (cI, 8, .inl (a_t_deeds_desks 7))), ((d_t_deeds_desks 8), .inr (1, [.int (t_deeds_desks_genus 8), .int (t_deeds_desks_size 8), .ref (q_t_deeds_desks 8), .int (t_deeds_desks_limit 8), .long (t_deeds_desks_tree 8)])), ((q_t_deeds_desks 8), .inl (cI, 8, .inl (a_t_deeds_desks 8))), (h_t_desk_powers, .inl (cI, 8, .inl a_t_desk_powers))] := hD
  refine lv_aload_n hx hb dX8_leaves_33 rfl (lv_at hl 1 rfl) ?_
  refine va_get (D := G) (ci := 7) (v := .ref h_t_deeds) (C := RX8) (T := TX8) (N := 9) hx hb hts hinX8 hown hK hP 0 rfl rfl 2 (by decide) (hta _ mw_362) (fun _ h9 => h9) rfl dX8_leaves_34 ?_
  refine lv_aload_n hx hb dX8_leaves_37 rfl (lv_at hl 1 rfl) ?_
  refine va_get (D := G) (ci := 7) (v := .ref h_t_desk) (C := RX8) (T := TX8) (N := 9) hx hb hts hinX8 hown hK hP 0 rfl rfl 0 (by decide) (hta _ mw_358) (fun _ h9 => h9) rfl dX8_leaves_38 ?_
  obtain ⟨x3, hx3, h⟩ := bd_e h
  try dsimp only at h
  refine k_VvPM (n := 1) (As := [.ref h_t_desk]) (rest := []) hx hb hml hown hts (c_X0_settle l G cI cJ cD cH H.size h_t_deeds h_t_desk h_t_deeds_desks h_t_desk_powers d_t_deeds_desks q_t_deeds_desks a_t_deeds_desks t_deeds_desks_genus t_deeds_desks_size t_deeds_desks_limit t_deeds_desks_tree t_deeds_now t_deeds_last t_desk_genus t_desk_size p0 (0 : Int64) a_t_desk_powers (x3.1) (x3.2.1) (x3.2.2.1) (x3.2.2.2.1) (x3.2.2.2.2.1) (x3.2.2.2.2.2.1) (x3.2.2.2.2.2.2.1) (x3.2.2.2.2.2.2.2.1) (x3.2.2.2.2.2.2.2.2) hx3) gX8_leaves_X0_settle rfl rfl rfl (by decide +kernel) ⟨by first | exact Nat.le_of_ble_eq_true rfl | (simp only [headSpec]; omega), by first | exact Nat.le_of_ble_eq_true rfl | (simp only [headSpec]; omega)⟩ hK hP hD hS hA [2, 1, 3, 4, 5, 6, 7, 8, 9, 10, 11, 12, 13, 14, 15, 16, 17, 18, 19, 20, 21, 22] (by decide) rfl rfl (ci := 0) rfl rfl rfl rfl rfl hl.1 (Nat.le_of_ble_eq_true rfl) dX8_leaves_41 ⟨Nat.zero_le _, Nat.zero_le _⟩ [(h_t, .inr (7, [.ref h_t_desk, .ref h_t_imageDesk, .ref h_t_deeds, .ref h_t_numbers, .ref h_t_tape, .ref h_t_reader, .ref h_t_speller, .ref h_t_holders, .int t_imageKept])), (h_t_desk, .inr (1, [.int t_desk_genus, .int t_desk_size, .ref h_t_desk_powers, .int p0, .long (0 : Int64)])), (h_t_deeds, .inr (0, [.ref h_t_deeds_desks, .int (x3.1), .int (x3.2.1)])), (h_t_deeds_desks, .inl (cD, 9, .inr (.inr (.inr (.inr (fun i => some ((x3.2.2.2.1) i))))))), (((x3.2.2.2.1) 0), .inr (1, [.int ((x3.2.2.2.2.1) 0), .int ((x3.2.2.2.2.2.2.2.1) 0), .ref ((x3.2.2.2.2.2.2.1) 0), .int ((x3.2.2.2.2.2.1) 0), .long ((x3.2.2.2.2.2.2.2.2) 0)])), (((x3.2.2.2.2.2.2.1) 0), .inl (cI, 8, .inl ((x3.2.2.1) 0))), (((x3.2.2.2.1) 1), .inr (1, [.int ((x3.2.2.2.2.1) 1), .int ((x3.2.2.2.2.2.2.2.1) 1), .ref ((x3.2.2.2.2.2.2.1) 1), .int ((x3.2.2.2.2.2.1) 1), .long ((x3.2.2.2.2.2.2.2.2) 1)])), (((x3.2.2.2.2.2.2.1) 1), .inl (cI, 8, .inl ((x3.2.2.1) 1))), (((x3.2.2.2.1) 2), .inr (1, [.int ((x3.2.2.2.2.1) 2), .int ((x3.2.2.2.2.2.2.2.1) 2), .ref ((x3.2.2.2.2.2.2.1) 2), .int ((x3.2.2.2.2.2.1) 2), .long ((x3.2.2.2.2.2.2.2.2) 2)])), (((x3.2.2.2.2.2.2.1) 2), .inl (cI, 8, .inl ((x3.2.2.1) 2))), (((x3.2.2.2.1) 3), .inr (1, [.int ((x3.2.2.2.2.1) 3), .int ((x3.2.2.2.2.2.2.2.1) 3), .ref ((x3.2.2.2.2.2.2.1) 3), .int ((x3.2.2.2.2.2.1) 3), .long ((x3.2.2.2.2.2.2.2.2) 3)])), (((x3.2.2.2.2.2.2.1) 3), .inl (cI, 8, .inl ((x3.2.2.1) 3))), (((x3.2.2.2.1) 4), .inr (1, [.int ((x3.2.2.2.2.1) 4), .int ((x3.2.2.2.2.2.2.2.1) 4), .ref ((x3.2.2.2.2.2.2.1) 4), .int ((x3.2.2.2.2.2.1) 4), .long ((x3.2.2.2.2.2.2.2.2) 4)])), (((x3.2.2.2.2.2.2.1) 4), .inl (cI, 8, .inl ((x3.2.2.1) 4))), (((x3.2.2.2.1) 5), .inr (1, [.int ((x3.2.2.2.2.1) 5), .int ((x3.2.2.2.2.2.2.2.1) 5), .ref ((x3.2.2.2.2.2.2.1) 5), .int ((x3.2.2.2.2.2.1) 5), .long ((x3.2.2.2.2.2.2.2.2) 5)])), (((x3.2.2.2.2.2.2.1) 5), .inl (cI, 8, .inl ((x3.2.2.1) 5))), (((x3.2.2.2.1) 6), .inr (1, [.int ((x3.2.2.2.2.1) 6), .int ((x3.2.2.2.2.2.2.2.1) 6), .ref ((x3.2.2.2.2.2.2.1) 6), .int ((x3.2.2.2.2.2.1) 6), .long ((x3.2.2.2.2.2.2.2.2) 6)])), (((x3.2.2.2.2.2.2.1) 6), .inl (cI, 8, .inl ((x3.2.2.1) 6))), (((x3.2.2.2.1) 7), .inr (1, [.int ((x3.2.2.2.2.1) 7), .int ((x3.2.2.2.2.2.2.2.1) 7), .ref ((x3.2.2.2.2.2.2.1) 7), .int ((x3.2.2.2.2.2.1) 7), .long ((x3.2.2.2.2.2.2.2.2) 7)])), (((x3.2.2.2.2.2.2.1) 7), .inl (cI, 8, .inl ((x3.2.2.1) 7))), (((x3.2.2.2.1) 8), .inr (1, [.int ((x3.2.2.2.2.1) 8), .int ((x3.2.2.2.2.2.2.2.1) 8), .ref ((x3.2.2.2.2.2.2.1) 8), .int ((x3.2.2.2.2.2.1) 8), .long ((x3.2.2.2.2.2.2.2.2) 8)])), (((x3.2.2.2.2.2.2.1) 8), .inl (cI, 8, .inl ((x3.2.2.1) 8))), (h_t_desk_powers, .inl (cI, 8, .inl a_t_desk_powers))] [0, 2, 1, 3, 4, 5, 6, 7, 8, 9, 10, 11, 12, 13, 14, 15, 16, 17, 18, 19, 20, 21, 22] 22 (by decide +kernel) rfl rfl (fun hp3 H locs hP hD hS => ?_)
  refine lv_iload_n hx hb dX8_leaves_44 rfl (lv_at hl 0 rfl) ?_
  have h9 := Option.some.inj h
  have e9 : t_desk_limit = r0 := congrArg (fun z9 => z9.1) h9
  rw [← e9]
  have e9 : p0 = w0 := congrArg (fun z9 => z9.2.1) h9
  rw [← e9]
  have e9 : (0 : Int64) = w1 := congrArg (fun z9 => z9.2.2.1) h9
  rw [← e9]
  have e9 : (x3.1) = w2 := congrArg (fun z9 => z9.2.2.2.1) h9
  rw [← e9]
  have e9 : (x3.2.1) = w3 := congrArg (fun z9 => z9.2.2.2.2.1) h9
  rw [← e9]
  have e9 : (x3.2.2.1) = w4 := congrArg (fun z9 => z9.2.2.2.2.2.1) h9
  rw [← e9]
  have e9 : (x3.2.2.2.1) = w5 := congrArg (fun z9 => z9.2.2.2.2.2.2.1) h9
  rw [← e9]
  have e9 : (x3.2.2.2.2.1) = w6 := congrArg (fun z9 => z9.2.2.2.2.2.2.2.1) h9
  rw [← e9]
  have e9 : (x3.2.2.2.2.2.1) = w7 := congrArg (fun z9 => z9.2.2.2.2.2.2.2.2.1) h9
  rw [← e9]
  have e9 : (x3.2.2.2.2.2.2.1) = w8 := congrArg (fun z9 => z9.2.2.2.2.2.2.2.2.2.1) h9
  rw [← e9]
  have e9 : (x3.2.2.2.2.2.2.2.1) = w9 := congrArg (fun z9 => z9.2.2.2.2.2.2.2.2.2.2.1) h9
  rw [← e9]
  have e9 : (x3.2.2.2.2.2.2.2.2) = w10 := congrArg (fun z9 => z9.2.2.2.2.2.2.2.2.2.2.2) h9
  rw [← e9]
  exact k_iretP hx hb hr hlocks hD hP hS rfl dX8_leaves_45

/-! X8_split -/
set_option maxHeartbeats 40000000 in
set_option maxRecDepth 100000 in
theorem c_X8_split (l : Launch) (G : va_G) (cI cJ cD cH : ClassId) (sz : Nat) (h_t : Nat) (h_t_desk : Nat) (h_t_deeds : Nat) (h_t_deeds_desks : Nat) (h_t_desk_powers : Nat) (h_t_imageDesk : Nat) (h_t_numbers : Nat) (h_t_tape : Nat) (h_t_reader : Nat) (h_t_speller : Nat) (h_t_holders : Nat) (d_t_deeds_desks : Nat → Nat) (q_t_deeds_desks : Nat → Nat) (a_t_deeds_desks : Nat → Nat → Int32) (t_deeds_desks_genus : Nat → Int32) (t_deeds_desks_size : Nat → Int32) (t_deeds_desks_limit : Nat → Int32) (t_deeds_desks_tree : Nat → Int64) (t_imageKept : Int32) (t_desk_genus : Int32) (t_desk_size : Int32) (t_desk_limit : Int32) (t_desk_tree : Int64) (t_deeds_now : Int32) (t_deeds_last : Int32) (a_t_desk_powers : Nat → Int32) (p0 : Int32) (r0 : Int32) (w0 : Int64) (w1 : Int32) (w2 : Int32) (w3 : Nat → Nat → Int32) (w4 : Nat → Nat) (w5 : Nat → Int32) (w6 : Nat → Int32) (w7 : Nat → Nat) (w8 : Nat → Int32) (w9 : Nat → Int64) (hF : F_X8_split d_t_deeds_desks q_t_deeds_desks a_t_deeds_desks t_deeds_desks_genus t_deeds_desks_size t_deeds_desks_limit t_deeds_desks_tree t_desk_genus t_desk_size t_desk_limit t_desk_tree t_deeds_now t_deeds_last a_t_desk_powers p0 = some (r0, w0, w1, w2, w3, w4, w5, w6, w7, w8, w9)) : Met l yX8_split wsX8_split ({ frames := 4, cells := 0, slots := 0, locals := 86 }) (k_pre G (k_T cI cJ cD cH) [(h_t, .inr (7, [.ref h_t_desk, .ref h_t_imageDesk, .ref h_t_deeds, .ref h_t_numbers, .ref h_t_tape, .ref h_t_reader, .ref h_t_speller, .ref h_t_holders, .int t_imageKept])), (h_t_desk, .inr (1, [.int t_desk_genus, .int t_desk_size, .ref h_t_desk_powers, .int t_desk_limit, .long t_desk_tree])), (h_t_deeds, .inr (0, [.ref h_t_deeds_desks, .int t_deeds_now, .int t_deeds_last])), (h_t_deeds_desks, .inl (cD, 9, .inr (.inr (.inr (.inr (fun i => some (d_t_deeds_desks i))))))), ((d_t_deeds_desks 0), .inr (1, [.int (t_deeds_desks_genus 0), .int (t_deeds_desks_size 0), .ref (q_t_deeds_desks 0), .int (t_deeds_desks_limit 0), .long (t_deeds_desks_tree 0)])), ((q_t_deeds_desks 0), .inl (cI, 8, .inl (a_t_deeds_desks 0))), ((d_t_deeds_desks 1), .inr (1, [.int (t_deeds_desks_genus 1), .int (t_deeds_desks_size 1), .ref (q_t_deeds_desks 1), .int (t_deeds_desks_limit 1), .long (t_deeds_desks_tree 1)])), ((q_t_deeds_desks 1), .inl (cI, 8, .inl (a_t_deeds_desks 1))), ((d_t_deeds_desks 2), .inr (1, [.int (t_deeds_desks_genus 2), .int (t_deeds_desks_size 2), .ref (q_t_deeds_desks 2), .int (t_deeds_desks_limit 2), .long (t_deeds_desks_tree 2)])), ((q_t_deeds_desks 2), .inl (cI, 8, .inl (a_t_deeds_desks 2))), ((d_t_deeds_desks 3), .inr (1, [.int (t_deeds_desks_genus 3), .int (t_deeds_desks_size 3), .ref (q_t_deeds_desks 3), .int (t_deeds_desks_limit 3), .long (t_deeds_desks_tree 3)])), ((q_t_deeds_desks 3), .inl (cI, 8, .inl (a_t_deeds_desks 3))), ((d_t_deeds_desks 4), .inr (1, [.int (t_deeds_desks_genus 4), .int (t_deeds_desks_size 4), .ref (q_t_deeds_desks 4), .int (t_deeds_desks_limit 4), .long (t_deeds_desks_tree 4)])), ((q_t_deeds_desks 4), .inl (cI, 8, .inl (a_t_deeds_desks 4))), ((d_t_deeds_desks 5), .inr (1, [.int (t_deeds_desks_genus 5), .int (t_deeds_desks_size 5), .ref (q_t_deeds_desks 5), .int (t_deeds_desks_limit 5), .long (t_deeds_desks_tree 5)])), ((q_t_deeds_desks 5), .inl (cI, 8, .inl (a_t_deeds_desks 5))), ((d_t_deeds_desks 6), .inr (1, [.int (t_deeds_desks_genus 6), .int (t_deeds_desks_size 6), .ref (q_t_deeds_desks 6), .int (t_deeds_desks_limit 6), .long (t_deeds_desks_tree 6)])), ((q_t_deeds_desks 6), .inl (cI, 8, .inl (a_t_deeds_desks 6))), ((d_t_deeds_desks 7), .inr (1, [.int (t_deeds_desks_genus 7), .int (t_deeds_desks_size 7), .ref (q_t_deeds_desks 7), .int (t_deeds_desks_limit 7), .long (t_deeds_desks_tree 7)])), ((q_t_deeds_desks 7), .inl (cI, 8, .inl (a_t_deeds_desks 7))), ((d_t_deeds_desks 8), .inr (1, [.int (t_deeds_desks_genus 8), .int (t_deeds_desks_size 8), .ref (q_t_deeds_desks 8), .int (t_deeds_desks_limit 8), .long (t_deeds_desks_tree 8)])), ((q_t_deeds_desks 8), .inl (cI, 8, .inl (a_t_deeds_desks 8))), (h_t_desk_powers, .inl (cI, 8, .inl a_t_desk_powers))] sz [.ref h_t, .int p0]) (va_Qi (fun r (_ : Unit) => r = r0 ∧ True) (fun _ t => va_P G vwCl [(h_t, .inr (7, [.ref h_t_desk, .ref h_t_imageDesk, .ref h_t_deeds, .ref h_t_numbers, .ref h_t_tape, .ref h_t_reader, .ref h_t_speller, .ref h_t_holders, .int t_imageKept])), (h_t_desk, .inr (1, [.int t_desk_genus, .int t_desk_size, .ref h_t_desk_powers, .int t_desk_limit, .long w0])), (h_t_deeds, .inr (0, [.ref h_t_deeds_desks, .int w1, .int w2])), (h_t_deeds_desks, .inl (cD, 9, .inr (.inr (.inr (.inr (fun i => some (w4 i))))))), ((w4 0), .inr (1, [.int (w5 0), .int (w8 0), .ref (w7 0), .int (w6 0), .long (w9 0)])), ((w7 0), .inl (cI, 8, .inl (w3 0))), ((w4 1), .inr (1, [.int (w5 1), .int (w8 1), .ref (w7 1), .int (w6 1), .long (w9 1)])), ((w7 1), .inl (cI, 8, .inl (w3 1))), ((w4 2), .inr (1, [.int (w5 2), .int (w8 2), .ref (w7 2), .int (w6 2), .long (w9 2)])), ((w7 2), .inl (cI, 8, .inl (w3 2))), ((w4 3), .inr (1, [.int (w5 3), .int (w8 3), .ref (w7 3), .int (w6 3), .long (w9 3)])), ((w7 3), .inl (cI, 8, .inl (w3 3))), ((w4 4), .inr (1, [.int (w5 4), .int (w8 4), .ref (w7 4), .int (w6 4), .long (w9 4)])), ((w7 4), .inl (cI, 8, .inl (w3 4))), ((w4 5), .inr (1, [.int (w5 5), .int (w8 5), .ref (w7 5), .int (w6 5), .long (w9 5)])), ((w7 5), .inl (cI, 8, .inl (w3 5))), ((w4 6), .inr (1, [.int (w5 6), .int (w8 6), .ref (w7 6), .int (w6 6), .long (w9 6)])), ((w7 6), .inl (cI, 8, .inl (w3 6))), ((w4 7), .inr (1, [.int (w5 7), .int (w8 7), .ref (w7 7), .int (w6 7), .long (w9 7)])), ((w7 7), .inl (cI, 8, .inl (w3 7))), ((w4 8), .inr (1, [.int (w5 8), .int (w8 8), .ref (w7 8), .int (w6 8), .long (w9 8)])), ((w7 8), .inl (cI, 8, .inl (w3 8))), (h_t_desk_powers, .inl (cI, 8, .inl a_t_desk_powers))] t.heap ∧ va_D (va_A [(h_t, .inr (7, [.ref h_t_desk, .ref h_t_imageDesk, .ref h_t_deeds, .ref h_t_numbers, .ref h_t_tape, .ref h_t_reader, .ref h_t_speller, .ref h_t_holders, .int t_imageKept])), (h_t_desk, .inr (1, [.int t_desk_genus, .int t_desk_size, .ref h_t_desk_powers, .int t_desk_limit, .long t_desk_tree])), (h_t_deeds, .inr (0, [.ref h_t_deeds_desks, .int t_deeds_now, .int t_deeds_last])), (h_t_deeds_desks, .inl (cD, 9, .inr (.inr (.inr (.inr (fun i => some (d_t_deeds_desks i))))))), ((d_t_deeds_desks 0), .inr (1, [.int (t_deeds_desks_genus 0), .int (t_deeds_desks_size 0), .ref (q_t_deeds_desks 0), .int (t_deeds_desks_limit 0), .long (t_deeds_desks_tree 0)])), ((q_t_deeds_desks 0), .inl (cI, 8, .inl (a_t_deeds_desks 0))), ((d_t_deeds_desks 1), .inr (1, [.int (t_deeds_desks_genus 1), .int (t_deeds_desks_size 1), .ref (q_t_deeds_desks 1), .int (t_deeds_desks_limit 1), .long (t_deeds_desks_tree 1)])), ((q_t_deeds_desks 1), .inl (cI, 8, .inl (a_t_deeds_desks 1))), ((d_t_deeds_desks 2), .inr (1, [.int (t_deeds_desks_genus 2), .int (t_deeds_desks_size 2), .ref (q_t_deeds_desks 2), .int (t_deeds_desks_limit 2), .long (t_deeds_desks_tree 2)])), ((q_t_deeds_desks 2), .inl (cI, 8, .inl (a_t_deeds_desks 2))), ((d_t_deeds_desks 3), .inr (1, [.int (t_deeds_desks_genus 3), .int (t_deeds_desks_size 3), .ref (q_t_deeds_desks 3), .int (t_deeds_desks_limit 3), .long (t_deeds_desks_tree 3)])), ((q_t_deeds_desks 3), .inl (cI, 8, .inl (a_t_deeds_desks 3))), ((d_t_deeds_desks 4), .inr (1, [.int (t_deeds_desks_genus 4), .int (t_deeds_desks_size 4), .ref (q_t_deeds_desks 4), .int (t_deeds_desks_limit 4), .long (t_deeds_desks_tree 4)])), ((q_t_deeds_desks 4), .inl (cI, 8, .inl (a_t_deeds_desks 4))), ((d_t_deeds_desks 5), .inr (1, [.int (t_deeds_desks_genus 5), .int (t_deeds_desks_size 5), .ref (q_t_deeds_desks 5), .int (t_deeds_desks_limit 5), .long (t_deeds_desks_tree 5)])), ((q_t_deeds_desks 5), .inl (cI, 8, .inl (a_t_deeds_desks 5))), ((d_t_deeds_desks 6), .inr (1, [.int (t_deeds_desks_genus 6), .int (t_deeds_desks_size 6), .ref (q_t_deeds_desks 6), .int (t_deeds_desks_limit 6), .long (t_deeds_desks_tree 6)])), ((q_t_deeds_desks 6), .inl (cI, 8, .inl (a_t_deeds_desks 6))), ((d_t_deeds_desks 7), .inr (1, [.int (t_deeds_desks_genus 7), .int (t_deeds_desks_size 7), .ref (q_t_deeds_desks 7), .int (t_deeds_desks_limit 7), .long (t_deeds_desks_tree 7)])), ((q_t_deeds_desks 7), .inl (cI, 8, .inl (a_t_deeds_desks 7))), ((d_t_deeds_desks 8), .inr (1, [.int (t_deeds_desks_genus 8), .int (t_deeds_desks_size 8), .ref (q_t_deeds_desks 8), .int (t_deeds_desks_limit 8), .long (t_deeds_desks_tree 8)])), ((q_t_deeds_desks 8), .inl (cI, 8, .inl (a_t_deeds_desks 8))), (h_t_desk_powers, .inl (cI, 8, .inl a_t_desk_powers))] sz) [(h_t, .inr (7, [.ref h_t_desk, .ref h_t_imageDesk, .ref h_t_deeds, .ref h_t_numbers, .ref h_t_tape, .ref h_t_reader, .ref h_t_speller, .ref h_t_holders, .int t_imageKept])), (h_t_desk, .inr (1, [.int t_desk_genus, .int t_desk_size, .ref h_t_desk_powers, .int t_desk_limit, .long w0])), (h_t_deeds, .inr (0, [.ref h_t_deeds_desks, .int w1, .int w2])), (h_t_deeds_desks, .inl (cD, 9, .inr (.inr (.inr (.inr (fun i => some (w4 i))))))), ((w4 0), .inr (1, [.int (w5 0), .int (w8 0), .ref (w7 0), .int (w6 0), .long (w9 0)])), ((w7 0), .inl (cI, 8, .inl (w3 0))), ((w4 1), .inr (1, [.int (w5 1), .int (w8 1), .ref (w7 1), .int (w6 1), .long (w9 1)])), ((w7 1), .inl (cI, 8, .inl (w3 1))), ((w4 2), .inr (1, [.int (w5 2), .int (w8 2), .ref (w7 2), .int (w6 2), .long (w9 2)])), ((w7 2), .inl (cI, 8, .inl (w3 2))), ((w4 3), .inr (1, [.int (w5 3), .int (w8 3), .ref (w7 3), .int (w6 3), .long (w9 3)])), ((w7 3), .inl (cI, 8, .inl (w3 3))), ((w4 4), .inr (1, [.int (w5 4), .int (w8 4), .ref (w7 4), .int (w6 4), .long (w9 4)])), ((w7 4), .inl (cI, 8, .inl (w3 4))), ((w4 5), .inr (1, [.int (w5 5), .int (w8 5), .ref (w7 5), .int (w6 5), .long (w9 5)])), ((w7 5), .inl (cI, 8, .inl (w3 5))), ((w4 6), .inr (1, [.int (w5 6), .int (w8 6), .ref (w7 6), .int (w6 6), .long (w9 6)])), ((w7 6), .inl (cI, 8, .inl (w3 6))), ((w4 7), .inr (1, [.int (w5 7), .int (w8 7), .ref (w7 7), .int (w6 7), .long (w9 7)])), ((w7 7), .inl (cI, 8, .inl (w3 7))), ((w4 8), .inr (1, [.int (w5 8), .int (w8 8), .ref (w7 8), .int (w6 8), .long (w9 8)])), ((w7 8), .inl (cI, 8, .inl (w3 8))), (h_t_desk_powers, .inl (cI, 8, .inl a_t_desk_powers))]) (va_A [(h_t, .inr (7, [.ref h_t_desk, .ref h_t_imageDesk, .ref h_t_deeds, .ref h_t_numbers, .ref h_t_tape, .ref h_t_reader, .ref h_t_speller, .ref h_t_holders, .int t_imageKept])), (h_t_desk, .inr (1, [.int t_desk_genus, .int t_desk_size, .ref h_t_desk_powers, .int t_desk_limit, .long t_desk_tree])), (h_t_deeds, .inr (0, [.ref h_t_deeds_desks, .int t_deeds_now, .int t_deeds_last])), (h_t_deeds_desks, .inl (cD, 9, .inr (.inr (.inr (.inr (fun i => some (d_t_deeds_desks i))))))), ((d_t_deeds_desks 0), .inr (1, [.int (t_deeds_desks_genus 0), .int (t_deeds_desks_size 0), .ref (q_t_deeds_desks 0), .int (t_deeds_desks_limit 0), .long (t_deeds_desks_tree 0)])), ((q_t_deeds_desks 0), .inl (cI, 8, .inl (a_t_deeds_desks 0))), ((d_t_deeds_desks 1), .inr (1, [.int (t_deeds_desks_genus 1), .int (t_deeds_desks_size 1), .ref (q_t_deeds_desks 1), .int (t_deeds_desks_limit 1), .long (t_deeds_desks_tree 1)])), ((q_t_deeds_desks 1), .inl (cI, 8, .inl (a_t_deeds_desks 1))), ((d_t_deeds_desks 2), .inr (1, [.int (t_deeds_desks_genus 2), .int (t_deeds_desks_size 2), .ref (q_t_deeds_desks 2), .int (t_deeds_desks_limit 2), .long (t_deeds_desks_tree 2)])), ((q_t_deeds_desks 2), .inl (cI, 8, .inl (a_t_deeds_desks 2))), ((d_t_deeds_desks 3), .inr (1, [.int (t_deeds_desks_genus 3), .int (t_deeds_desks_size 3), .ref (q_t_deeds_desks 3), .int (t_deeds_desks_limit 3), .long (t_deeds_desks_tree 3)])), ((q_t_deeds_desks 3), .inl (cI, 8, .inl (a_t_deeds_desks 3))), ((d_t_deeds_desks 4), .inr (1, [.int (t_deeds_desks_genus 4), .int (t_deeds_desks_size 4), .ref (q_t_deeds_desks 4), .int (t_deeds_desks_limit 4), .long (t_deeds_desks_tree 4)])), ((q_t_deeds_desks 4), .inl (cI, 8, .inl (a_t_deeds_desks 4))), ((d_t_deeds_desks 5), .inr (1, [.int (t_deeds_desks_genus 5), .int (t_deeds_desks_size 5), .ref (q_t_deeds_desks 5), .int (t_deeds_desks_limit 5), .long (t_deeds_desks_tree 5)])), ((q_t_deeds_desks 5), .inl (cI, 8, .inl (a_t_deeds_desks 5))), ((d_t_deeds_desks 6), .inr (1, [.int (t_deeds_desks_genus 6), .int (t_deeds_desks_size 6), .ref (q_t_deeds_desks 6), .int (t_deeds_desks_limit 6), .long (t_deeds_desks_tree 6)])), ((q_t_deeds_desks 6), .inl (cI, 8, .inl (a_t_deeds_desks 6))), ((d_t_deeds_desks 7), .inr (1, [.int (t_deeds_desks_genus 7), .int (t_deeds_desks_size 7), .ref (q_t_deeds_desks 7), .int (t_deeds_desks_limit 7), .long (t_deeds_desks_tree 7)])), ((q_t_deeds_desks 7), .inl (cI, 8, .inl (a_t_deeds_desks 7))), ((d_t_deeds_desks 8), .inr (1, [.int (t_deeds_desks_genus 8), .int (t_deeds_desks_size 8), .ref (q_t_deeds_desks 8), .int (t_deeds_desks_limit 8), .long (t_deeds_desks_tree 8)])), ((q_t_deeds_desks 8), .inl (cI, 8, .inl (a_t_deeds_desks 8))), (h_t_desk_powers, .inl (cI, 8, .inl a_t_desk_powers))] sz)) 0 0 (va_A [(h_t, .inr (7, [.ref h_t_desk, .ref h_t_imageDesk, .ref h_t_deeds, .ref h_t_numbers, .ref h_t_tape, .ref h_t_reader, .ref h_t_speller, .ref h_t_holders, .int t_imageKept])), (h_t_desk, .inr (1, [.int t_desk_genus, .int t_desk_size, .ref h_t_desk_powers, .int t_desk_limit, .long t_desk_tree])), (h_t_deeds, .inr (0, [.ref h_t_deeds_desks, .int t_deeds_now, .int t_deeds_last])), (h_t_deeds_desks, .inl (cD, 9, .inr (.inr (.inr (.inr (fun i => some (d_t_deeds_desks i))))))), ((d_t_deeds_desks 0), .inr (1, [.int (t_deeds_desks_genus 0), .int (t_deeds_desks_size 0), .ref (q_t_deeds_desks 0), .int (t_deeds_desks_limit 0), .long (t_deeds_desks_tree 0)])), ((q_t_deeds_desks 0), .inl (cI, 8, .inl (a_t_deeds_desks 0))), ((d_t_deeds_desks 1), .inr (1, [.int (t_deeds_desks_genus 1), .int (t_deeds_desks_size 1), .ref (q_t_deeds_desks 1), .int (t_deeds_desks_limit 1), .long (t_deeds_desks_tree 1)])), ((q_t_deeds_desks 1), .inl (cI, 8, .inl (a_t_deeds_desks 1))), ((d_t_deeds_desks 2), .inr (1, [.int (t_deeds_desks_genus 2), .int (t_deeds_desks_size 2), .ref (q_t_deeds_desks 2), .int (t_deeds_desks_limit 2), .long (t_deeds_desks_tree 2)])), ((q_t_deeds_desks 2), .inl (cI, 8, .inl (a_t_deeds_desks 2))), ((d_t_deeds_desks 3), .inr (1, [.int (t_deeds_desks_genus 3), .int (t_deeds_desks_size 3), .ref (q_t_deeds_desks 3), .int (t_deeds_desks_limit 3), .long (t_deeds_desks_tree 3)])), ((q_t_deeds_desks 3), .inl (cI, 8, .inl (a_t_deeds_desks 3))), ((d_t_deeds_desks 4), .inr (1, [.int (t_deeds_desks_genus 4), .int (t_deeds_desks_size 4), .ref (q_t_deeds_desks 4), .int (t_deeds_desks_limit 4), .long (t_deeds_desks_tree 4)])), ((q_t_deeds_desks 4), .inl (cI, 8, .inl (a_t_deeds_desks 4))), ((d_t_deeds_desks 5), .inr (1, [.int (t_deeds_desks_genus 5), .int (t_deeds_desks_size 5), .ref (q_t_deeds_desks 5), .int (t_deeds_desks_limit 5), .long (t_deeds_desks_tree 5)])), ((q_t_deeds_desks 5), .inl (cI, 8, .inl (a_t_deeds_desks 5))), ((d_t_deeds_desks 6), .inr (1, [.int (t_deeds_desks_genus 6), .int (t_deeds_desks_size 6), .ref (q_t_deeds_desks 6), .int (t_deeds_desks_limit 6), .long (t_deeds_desks_tree 6)])), ((q_t_deeds_desks 6), .inl (cI, 8, .inl (a_t_deeds_desks 6))), ((d_t_deeds_desks 7), .inr (1, [.int (t_deeds_desks_genus 7), .int (t_deeds_desks_size 7), .ref (q_t_deeds_desks 7), .int (t_deeds_desks_limit 7), .long (t_deeds_desks_tree 7)])), ((q_t_deeds_desks 7), .inl (cI, 8, .inl (a_t_deeds_desks 7))), ((d_t_deeds_desks 8), .inr (1, [.int (t_deeds_desks_genus 8), .int (t_deeds_desks_size 8), .ref (q_t_deeds_desks 8), .int (t_deeds_desks_limit 8), .long (t_deeds_desks_tree 8)])), ((q_t_deeds_desks 8), .inl (cI, 8, .inl (a_t_deeds_desks 8))), (h_t_desk_powers, .inl (cI, 8, .inl a_t_desk_powers))] sz) := by
  refine Met.ofW (cc := cX8_split) (maxL := 2) (ret := (some .int)) (by decide) rfl ?_
  intro p e s m args below meth c s₁ B hml hv
  obtain ⟨rfl, hsz, hP, hK, hD0⟩ := hv
  have hx := B.exec
  have hb := B.bytes
  have hr := B.returns
  have hts := atoms_spec (ws := wsX8_split) B.pre
  have hta : ∀ w ∈ wA, w.before ([.ref h_t, .int p0] : List Value).toArray s = true := hta_of hts
  have hown : s.vm.findClass RX8 = some m.cls := findClass_of_methodNamed B.named
  have hlocks := B.notSynchronized
  subst hsz
  have hD := hD0.self (sz := s.heap.size)
  generalize hAe : va_A [(h_t, .inr (7, [.ref h_t_desk, .ref h_t_imageDesk, .ref h_t_deeds, .ref h_t_numbers, .ref h_t_tape, .ref h_t_reader, .ref h_t_speller, .ref h_t_holders, .int t_imageKept])), (h_t_desk, .inr (1, [.int t_desk_genus, .int t_desk_size, .ref h_t_desk_powers, .int t_desk_limit, .long t_desk_tree])), (h_t_deeds, .inr (0, [.ref h_t_deeds_desks, .int t_deeds_now, .int t_deeds_last])), (h_t_deeds_desks, .inl (cD, 9, .inr (.inr (.inr (.inr (fun i => some (d_t_deeds_desks i))))))), ((d_t_deeds_desks 0), .inr (1, [.int (t_deeds_desks_genus 0), .int (t_deeds_desks_size 0), .ref (q_t_deeds_desks 0), .int (t_deeds_desks_limit 0), .long (t_deeds_desks_tree 0)])), ((q_t_deeds_desks 0), .inl (cI, 8, .inl (a_t_deeds_desks 0))), ((d_t_deeds_desks 1), .inr (1, [.int (t_deeds_desks_genus 1), .int (t_deeds_desks_size 1), .ref (q_t_deeds_desks 1), .int (t_deeds_desks_limit 1), .long (t_deeds_desks_tree 1)])), ((q_t_deeds_desks 1), .inl (cI, 8, .inl (a_t_deeds_desks 1))), ((d_t_deeds_desks 2), .inr (1, [.int (t_deeds_desks_genus 2), .int (t_deeds_desks_size 2), .ref (q_t_deeds_desks 2), .int (t_deeds_desks_limit 2), .long (t_deeds_desks_tree 2)])), ((q_t_deeds_desks 2), .inl (cI, 8, .inl (a_t_deeds_desks 2))), ((d_t_deeds_desks 3), .inr (1, [.int (t_deeds_desks_genus 3), .int (t_deeds_desks_size 3), .ref (q_t_deeds_desks 3), .int (t_deeds_desks_limit 3), .long (t_deeds_desks_tree 3)])), ((q_t_deeds_desks 3), .inl (cI, 8, .inl (a_t_deeds_desks 3))), ((d_t_deeds_desks 4), .inr (1, [.int (t_deeds_desks_genus 4), .int (t_deeds_desks_size 4), .ref (q_t_deeds_desks 4), .int (t_deeds_desks_limit 4), .long (t_deeds_desks_tree 4)])), ((q_t_deeds_desks 4), .inl (cI, 8, .inl (a_t_deeds_desks 4))), ((d_t_deeds_desks 5), .inr (1, [.int (t_deeds_desks_genus 5), .int (t_deeds_desks_size 5), .ref (q_t_deeds_desks 5), .int (t_deeds_desks_limit 5), .long (t_deeds_desks_tree 5)])), ((q_t_deeds_desks 5), .inl (cI, 8, .inl (a_t_deeds_desks 5))), ((d_t_deeds_desks 6), .inr (1, [.int (t_deeds_desks_genus 6), .int (t_deeds_desks_size 6), .ref (q_t_deeds_desks 6), .int (t_deeds_desks_limit 6), .long (t_deeds_desks_tree 6)])), ((q_t_deeds_desks 6), .inl (cI, 8, .inl (a_t_deeds_desks 6))), ((d_t_deeds_desks 7), .inr (1, [.int (t_deeds_desks_genus 7), .int (t_deeds_desks_size 7), .ref (q_t_deeds_desks 7), .int (t_deeds_desks_limit 7), .long (t_deeds_desks_tree 7)])), ((q_t_deeds_desks 7), .inl (cI, 8, .inl (a_t_deeds_desks 7))), ((d_t_deeds_desks 8), .inr (1, [.int (t_deeds_desks_genus 8), .int (t_deeds_desks_size 8), .ref (q_t_deeds_desks 8), .int (t_deeds_desks_limit 8), .long (t_deeds_desks_tree 8)])), ((q_t_deeds_desks 8), .inl (cI, 8, .inl (a_t_deeds_desks 8))), (h_t_desk_powers, .inl (cI, 8, .inl a_t_desk_powers))] s.heap.size = A at hD ⊢
  have hA : ∀ q : Nat, s.heap.size ≤ q → A q := fun q h => by rw [← hAe]; exact Or.inr h
  have hS : va_S A s.heap s.heap [] := va_S.rf
  have hl := lv_entry ([.ref h_t, .int p0]) (n := 2) (Nat.le_of_ble_eq_true rfl)
  rw [lg_entry_eq]
  generalize (lg_sl ([.ref h_t, .int p0]) ++ List.replicate (2 - (lg_sl ([.ref h_t, .int p0])).length) Slot.unset).toArray = ls at hl ⊢
  have hl : lv_has ls 2 [(0, .ref h_t), (1, .int p0)] := hl
  have hinX1 : ∀ w ∈ wsX10, w ∈ wsX8_split := hin_of in_X1
  have hinX8 : ∀ w ∈ wsX80, w ∈ wsX8_split := hin_of in_X8
  have h := hF
  unfold F_X8_split at h
  refine lv_iload_n hx hb dX8_split_0 rfl (lv_at hl 1 rfl) ?_
  refine lv_aload_n hx hb dX8_split_1 rfl (lv_at hl 0 rfl) ?_
  refine va_get (D := G) (ci := 7) (v := .ref h_t_desk) (C := RX8) (T := TX8) (N := 9) hx hb hts hinX8 hown hK hP 0 rfl rfl 0 (by decide) (hta _ mw_358) (fun _ h9 => h9) rfl dX8_split_2 ?_
  refine va_get (D := G) (ci := 1) (v := .int t_desk_limit) (C := RX1) (T := TX1) (N := 5) hx hb hts hinX1 hown hK hP 1 rfl rfl 3 (by decide) (hta _ mw_479) (fun _ h9 => h9) rfl dX8_split_5 ?_
  obtain ⟨x1, hx1, h⟩ := bd_e h
  try dsimp only at h
  refine k_SiU (n := 2) (As := [.int p0, .int t_desk_limit]) (rest := []) hx hb hml hown hts (c_X6_isSplit l G cI cJ cD cH s.heap.size p0 t_desk_limit x1 hx1) gX8_split_X6_isSplit rfl rfl rfl (by decide +kernel) ⟨by first | exact Nat.le_of_ble_eq_true rfl | (simp only [headSpec]; omega), by first | exact Nat.le_of_ble_eq_true rfl | (simp only [headSpec]; omega)⟩ hK hP hD hS hA [] (by decide) rfl rfl rfl hl.1 (Nat.le_of_ble_eq_true rfl) dX8_split_8 ⟨Nat.zero_le _, Nat.zero_le _⟩ (fun hp1 H locs hP hS => ?_)
  refine lv_if_ne (tgt := 16) hx hb dX8_split_11 (by decide) (fun c2 => ?_) (fun c2 => ?_)
  rotate_left
  · have h := it_p h c2
    refine lv_iconst (v := (-1 : Int32)) hx hb dX8_split_14 (by decide) ?_
    have h9 := Option.some.inj h
    have e9 : (-1 : Int32) = r0 := congrArg (fun z9 => z9.1) h9
    rw [← e9]
    have e9 : t_desk_tree = w0 := congrArg (fun z9 => z9.2.1) h9
    rw [← e9]
    have e9 : t_deeds_now = w1 := congrArg (fun z9 => z9.2.2.1) h9
    rw [← e9]
    have e9 : t_deeds_last = w2 := congrArg (fun z9 => z9.2.2.2.1) h9
    rw [← e9]
    have e9 : a_t_deeds_desks = w3 := congrArg (fun z9 => z9.2.2.2.2.1) h9
    rw [← e9]
    have e9 : d_t_deeds_desks = w4 := congrArg (fun z9 => z9.2.2.2.2.2.1) h9
    rw [← e9]
    have e9 : t_deeds_desks_genus = w5 := congrArg (fun z9 => z9.2.2.2.2.2.2.1) h9
    rw [← e9]
    have e9 : t_deeds_desks_limit = w6 := congrArg (fun z9 => z9.2.2.2.2.2.2.2.1) h9
    rw [← e9]
    have e9 : q_t_deeds_desks = w7 := congrArg (fun z9 => z9.2.2.2.2.2.2.2.2.1) h9
    rw [← e9]
    have e9 : t_deeds_desks_size = w8 := congrArg (fun z9 => z9.2.2.2.2.2.2.2.2.2.1) h9
    rw [← e9]
    have e9 : t_deeds_desks_tree = w9 := congrArg (fun z9 => z9.2.2.2.2.2.2.2.2.2.2) h9
    rw [← e9]
    exact k_iretP hx hb hr hlocks hD hP hS rfl dX8_split_15
  have h := it_n h c2
  refine lv_aload_n hx hb dX8_split_16 rfl (lv_at hl 0 rfl) ?_
  refine va_get (D := G) (ci := 7) (v := .ref h_t_desk) (C := RX8) (T := TX8) (N := 9) hx hb hts hinX8 hown hK hP 0 rfl rfl 0 (by decide) (hta _ mw_358) (fun _ h9 => h9) rfl dX8_split_17 ?_
  refine va_get (D := G) (ci := 1) (v := .long t_desk_tree) (C := RX1) (T := TX1) (N := 5) hx hb hts hinX1 hown hK hP 1 rfl rfl 4 (by decide) (hta _ mw_480) (fun _ h9 => h9) rfl dX8_split_20 ?_
  refine lv_iload_n hx hb dX8_split_23 rfl (lv_at hl 1 rfl) ?_
  obtain ⟨x3, hx3, h⟩ := bd_e h
  try dsimp only at h
  refine k_SiU (n := 2) (As := [.long t_desk_tree, .int p0]) (rest := []) hx hb hml hown hts (c_X6_fits l G cI cJ cD cH H.size t_desk_tree p0 x3 hx3) gX8_split_X6_fits rfl rfl rfl (by decide +kernel) ⟨by first | exact Nat.le_of_ble_eq_true rfl | (simp only [headSpec]; omega), by first | exact Nat.le_of_ble_eq_true rfl | (simp only [headSpec]; omega)⟩ hK hP hD hS hA [] (by decide) rfl rfl rfl hl.1 (Nat.le_of_ble_eq_true rfl) dX8_split_24 ⟨Nat.zero_le _, Nat.zero_le _⟩ (fun hp3 H locs hP hS => ?_)
  refine lv_if_ne (tgt := 33) hx hb dX8_split_27 (by decide) (fun c4 => ?_) (fun c4 => ?_)
  rotate_left
  · have h := it_p h c4
    refine lv_bipush (v := (-5 : Int32)) hx hb dX8_split_30 (by decide) ?_
    have h9 := Option.some.inj h
    have e9 : (-5 : Int32) = r0 := congrArg (fun z9 => z9.1) h9
    rw [← e9]
    have e9 : t_desk_tree = w0 := congrArg (fun z9 => z9.2.1) h9
    rw [← e9]
    have e9 : t_deeds_now = w1 := congrArg (fun z9 => z9.2.2.1) h9
    rw [← e9]
    have e9 : t_deeds_last = w2 := congrArg (fun z9 => z9.2.2.2.1) h9
    rw [← e9]
    have e9 : a_t_deeds_desks = w3 := congrArg (fun z9 => z9.2.2.2.2.1) h9
    rw [← e9]
    have e9 : d_t_deeds_desks = w4 := congrArg (fun z9 => z9.2.2.2.2.2.1) h9
    rw [← e9]
    have e9 : t_deeds_desks_genus = w5 := congrArg (fun z9 => z9.2.2.2.2.2.2.1) h9
    rw [← e9]
    have e9 : t_deeds_desks_limit = w6 := congrArg (fun z9 => z9.2.2.2.2.2.2.2.1) h9
    rw [← e9]
    have e9 : q_t_deeds_desks = w7 := congrArg (fun z9 => z9.2.2.2.2.2.2.2.2.1) h9
    rw [← e9]
    have e9 : t_deeds_desks_size = w8 := congrArg (fun z9 => z9.2.2.2.2.2.2.2.2.2.1) h9
    rw [← e9]
    have e9 : t_deeds_desks_tree = w9 := congrArg (fun z9 => z9.2.2.2.2.2.2.2.2.2.2) h9
    rw [← e9]
    exact k_iretP hx hb hr hlocks hD hP hS rfl dX8_split_32
  have h := it_n h c4
  refine lv_aload_n hx hb dX8_split_33 rfl (lv_at hl 0 rfl) ?_
  refine va_get (D := G) (ci := 7) (v := .ref h_t_desk) (C := RX8) (T := TX8) (N := 9) hx hb hts hinX8 hown hK hP 0 rfl rfl 0 (by decide) (hta _ mw_358) (fun _ h9 => h9) rfl dX8_split_34 ?_
  refine lv_aload_n hx hb dX8_split_37 rfl (lv_at hl 0 rfl) ?_
  refine va_get (D := G) (ci := 7) (v := .ref h_t_desk) (C := RX8) (T := TX8) (N := 9) hx hb hts hinX8 hown hK hP 0 rfl rfl 0 (by decide) (hta _ mw_358) (fun _ h9 => h9) rfl dX8_split_38 ?_
  refine va_get (D := G) (ci := 1) (v := .long t_desk_tree) (C := RX1) (T := TX1) (N := 5) hx hb hts hinX1 hown hK hP 1 rfl rfl 4 (by decide) (hta _ mw_480) (fun _ h9 => h9) rfl dX8_split_41 ?_
  refine lv_iload_n hx hb dX8_split_44 rfl (lv_at hl 1 rfl) ?_
  obtain ⟨x5, hx5, h⟩ := bd_e h
  try dsimp only at h
  refine k_SlU (n := 2) (As := [.long t_desk_tree, .int p0]) (rest := [.ref h_t_desk]) hx hb hml hown hts (c_X6_with l G cI cJ cD cH H.size t_desk_tree p0 x5 hx5) gX8_split_X6_with rfl rfl rfl (by decide +kernel) ⟨by first | exact Nat.le_of_ble_eq_true rfl | (simp only [headSpec]; omega), by first | exact Nat.le_of_ble_eq_true rfl | (simp only [headSpec]; omega)⟩ hK hP hD hS hA [] (by decide) rfl rfl rfl hl.1 (Nat.le_of_ble_eq_true rfl) dX8_split_45 ⟨Nat.zero_le _, Nat.zero_le _⟩ (fun hp5 H locs hP hS => ?_)
  refine va_put (D := G) (ci := 1) (v := .long x5) (ty := .long) (C := RX1) (T := TX1) (N := 5) hx hb hts hinX1 tyX1 tyX1_ok nmX1 hown hK hP hD hS 1 rfl rfl 4 (by decide) (hta _ mw_480) (fun _ h9 => h9) rfl (by decide +kernel) rfl rfl (Nat.le_of_ble_eq_true rfl) dX8_split_48 (fun H locs hP hD hS => ?_)
  have hP : va_P G vwCl [(h_t, .inr (7, [.ref h_t_desk, .ref h_t_imageDesk, .ref h_t_deeds, .ref h_t_numbers, .ref h_t_tape, .ref h_t_reader, .ref h_t_speller, .ref h_t_holders, .int t_imageKept])), (h_t_desk, .inr (1, [.int t_desk_genus, .int t_desk_size, .ref h_t_desk_powers, .int t_desk_limit, .long x5])), (h_t_deeds, .inr (0, [.ref h_t_deeds_desks, .int t_deeds_now, .int t_deeds_last])), (h_t_deeds_desks, .inl (cD, 9, .inr (.inr (.inr (.inr (fun i => some (d_t_deeds_desks i))))))), ((d_t_deeds_desks 0), .inr (1, [.int (t_deeds_desks_genus 0), .int (t_deeds_desks_size 0), .ref (q_t_deeds_desks 0), .int (t_deeds_desks_limit 0), .long (t_deeds_desks_tree 0)])), ((q_t_deeds_desks 0), .inl (cI, 8, .inl (a_t_deeds_desks 0))), ((d_t_deeds_desks 1), .inr (1, [.int (t_deeds_desks_genus 1), .int (t_deeds_desks_size 1), .ref (q_t_deeds_desks 1), .int (t_deeds_desks_limit 1), .long (t_deeds_desks_tree 1)])), ((q_t_deeds_desks 1), .inl (cI, 8, .inl (a_t_deeds_desks 1))), ((d_t_deeds_desks 2), .inr (1, [.int (t_deeds_desks_genus 2), .int (t_deeds_desks_size 2), .ref (q_t_deeds_desks 2), .int (t_deeds_desks_limit 2), .long (t_deeds_desks_tree 2)])), ((q_t_deeds_desks 2), .inl (cI, 8, .inl (a_t_deeds_desks 2))), ((d_t_deeds_desks 3), .inr (1, [.int (t_deeds_desks_genus 3), .int (t_deeds_desks_size 3), .ref (q_t_deeds_desks 3), .int (t_deeds_desks_limit 3), .long (t_deeds_desks_tree 3)])), ((q_t_deeds_desks 3), .inl (cI, 8, .inl (a_t_deeds_desks 3))), ((d_t_deeds_desks 4), .inr (1, [.int (t_deeds_desks_genus 4), .int (t_deeds_desks_size 4), .ref (q_t_deeds_desks 4), .int (t_deeds_desks_limit 4), .long (t_deeds_desks_tree 4)])), ((q_t_deeds_desks 4), .inl (cI, 8, .inl (a_t_deeds_desks 4))), ((d_t_deeds_desks 5), .inr (1, [.int (t_deeds_desks_genus 5), .int (t_deeds_desks_size 5), .ref (q_t_deeds_desks 5), .int (t_deeds_desks_limit 5), .long (t_deeds_desks_tree 5)])), ((q_t_deeds_desks 5), .inl (cI, 8, .inl (a_t_deeds_desks 5))), ((d_t_deeds_desks 6), .inr (1, [.int (t_deeds_desks_genus 6), .int (t_deeds_desks_size 6), .ref (q_t_deeds_desks 6), .int (t_deeds_desks_limit 6), .long (t_deeds_desks_tree 6)])), ((q_t_deeds_desks 6), .inl (cI, 8, .inl (a_t_deeds_desks 6))), ((d_t_deeds_desks 7), .inr (1, [.int (t_deeds_desks_genus 7), .int (t_deeds_desks_size 7), .ref (q_t_deeds_desks 7), .int (t_deeds_desks_limit 7), .long (t_deeds_desks_tree 7)])), ((q_t_deeds_desks 7), .inl (cI, 8, .inl (a_t_deeds_desks 7))), ((d_t_deeds_desks 8), .inr (1, [.int (t_deeds_desks_genus 8), .int (t_deeds_desks_size 8), .ref (q_t_deeds_desks 8), .int (t_deeds_desks_limit 8), .long (t_deeds_desks_tree 8)])), ((q_t_deeds_desks 8), .inl (cI, 8, .inl (a_t_deeds_desks 8))), (h_t_desk_powers, .inl (cI, 8, .inl a_t_desk_powers))] H := hP
  have hD : va_D A [(h_t, .inr (7, [.ref h_t_desk, .ref h_t_imageDesk, .ref h_t_deeds, .ref h_t_numbers, .ref h_t_tape, .ref h_t_reader, .ref h_t_speller, .ref h_t_holders, .int t_imageKept])), (h_t_desk, .inr (1, [.int t_desk_genus, .int t_desk_size, .ref h_t_desk_powers, .int t_desk_limit, .long x5])), (h_t_deeds, .inr (0, [.ref h_t_deeds_desks, .int t_deeds_now, .int t_deeds_last])), (h_t_deeds_desks, .inl (cD, 9, .inr (.inr (.inr (.inr (fun i => some (d_t_deeds_desks i))))))), ((d_t_deeds_desks 0), .inr (1, [.int (t_deeds_desks_genus 0), .int (t_deeds_desks_size 0), .ref (q_t_deeds_desks 0), .int (t_deeds_desks_limit 0), .long (t_deeds_desks_tree 0)])), ((q_t_deeds_desks 0), .inl (cI, 8, .inl (a_t_deeds_desks 0))), ((d_t_deeds_desks 1), .inr (1, [.int (t_deeds_desks_genus 1), .int (t_deeds_desks_size 1), .ref (q_t_deeds_desks 1), .int (t_deeds_desks_limit 1), .long (t_deeds_desks_tree 1)])), ((q_t_deeds_desks 1), .inl (cI, 8, .inl (a_t_deeds_desks 1))), ((d_t_deeds_desks 2), .inr (1, [.int (t_deeds_desks_genus 2), .int (t_deeds_desks_size 2), .ref (q_t_deeds_desks 2), .int (t_deeds_desks_limit 2), .long (t_deeds_desks_tree 2)])), ((q_t_deeds_desks 2), .inl (cI, 8, .inl (a_t_deeds_desks 2))), ((d_t_deeds_desks 3), .inr (1, [.int (t_deeds_desks_genus 3), .int (t_deeds_desks_size 3), .ref (q_t_deeds_desks 3), .int (t_deeds_desks_limit 3), .long (t_deeds_desks_tree 3)])), ((q_t_deeds_desks 3), .inl (cI, 8, .inl (a_t_deeds_desks 3))), ((d_t_deeds_desks 4), .inr (1, [.int (t_deeds_desks_genus 4), .int (t_deeds_desks_size 4), .ref (q_t_deeds_desks 4), .int (t_deeds_desks_limit 4), .long (t_deeds_desks_tree 4)])), ((q_t_deeds_desks 4), .inl (cI, 8, .inl (a_t_deeds_desks 4))), ((d_t_deeds_desks 5), .inr (1, [.int (t_deeds_desks_genus 5), .int (t_deeds_desks_size 5), .ref (q_t_deeds_desks 5), .int (t_deeds_desks_limit 5), .long (t_deeds_desks_tree 5)])), ((q_t_deeds_desks 5), .inl (cI, 8, .inl (a_t_deeds_desks 5))), ((d_t_deeds_desks 6), .inr (1, [.int (t_deeds_desks_genus 6), .int (t_deeds_desks_size 6), .ref (q_t_deeds_desks 6), .int (t_deeds_desks_limit 6), .long (t_deeds_desks_tree 6)])), ((q_t_deeds_desks 6), .inl (cI, 8, .inl (a_t_deeds_desks 6))), ((d_t_deeds_desks 7), .inr (1, [.int (t_deeds_desks_genus 7), .int (t_deeds_desks_size 7), .ref (q_t_deeds_desks 7), .int (t_deeds_desks_limit 7), .long (t_deeds_desks_tree 7)])), ((q_t_deeds_desks 7), .inl (cI, 8, .inl (a_t_deeds_desks 7))), ((d_t_deeds_desks 8), .inr (1, [.int (t_deeds_desks_genus 8), .int (t_deeds_desks_size 8), .ref (q_t_deeds_desks 8), .int (t_deeds_desks_limit 8), .long (t_deeds_desks_tree 8)])), ((q_t_deeds_desks 8), .inl (cI, 8, .inl (a_t_deeds_desks 8))), (h_t_desk_powers, .inl (cI, 8, .inl a_t_desk_powers))] := hD
  refine lv_aload_n hx hb dX8_split_51 rfl (lv_at hl 0 rfl) ?_
  refine va_get (D := G) (ci := 7) (v := .ref h_t_deeds) (C := RX8) (T := TX8) (N := 9) hx hb hts hinX8 hown hK hP 0 rfl rfl 2 (by decide) (hta _ mw_362) (fun _ h9 => h9) rfl dX8_split_52 ?_
  refine lv_aload_n hx hb dX8_split_55 rfl (lv_at hl 0 rfl) ?_
  refine va_get (D := G) (ci := 7) (v := .ref h_t_desk) (C := RX8) (T := TX8) (N := 9) hx hb hts hinX8 hown hK hP 0 rfl rfl 0 (by decide) (hta _ mw_358) (fun _ h9 => h9) rfl dX8_split_56 ?_
  obtain ⟨x6, hx6, h⟩ := bd_e h
  try dsimp only at h
  refine k_VvPM (n := 1) (As := [.ref h_t_desk]) (rest := []) hx hb hml hown hts (c_X0_settle l G cI cJ cD cH H.size h_t_deeds h_t_desk h_t_deeds_desks h_t_desk_powers d_t_deeds_desks q_t_deeds_desks a_t_deeds_desks t_deeds_desks_genus t_deeds_desks_size t_deeds_desks_limit t_deeds_desks_tree t_deeds_now t_deeds_last t_desk_genus t_desk_size t_desk_limit x5 a_t_desk_powers (x6.1) (x6.2.1) (x6.2.2.1) (x6.2.2.2.1) (x6.2.2.2.2.1) (x6.2.2.2.2.2.1) (x6.2.2.2.2.2.2.1) (x6.2.2.2.2.2.2.2.1) (x6.2.2.2.2.2.2.2.2) hx6) gX8_split_X0_settle rfl rfl rfl (by decide +kernel) ⟨by first | exact Nat.le_of_ble_eq_true rfl | (simp only [headSpec]; omega), by first | exact Nat.le_of_ble_eq_true rfl | (simp only [headSpec]; omega)⟩ hK hP hD hS hA [2, 1, 3, 4, 5, 6, 7, 8, 9, 10, 11, 12, 13, 14, 15, 16, 17, 18, 19, 20, 21, 22] (by decide) rfl rfl (ci := 0) rfl rfl rfl rfl rfl hl.1 (Nat.le_of_ble_eq_true rfl) dX8_split_59 ⟨Nat.zero_le _, Nat.zero_le _⟩ [(h_t, .inr (7, [.ref h_t_desk, .ref h_t_imageDesk, .ref h_t_deeds, .ref h_t_numbers, .ref h_t_tape, .ref h_t_reader, .ref h_t_speller, .ref h_t_holders, .int t_imageKept])), (h_t_desk, .inr (1, [.int t_desk_genus, .int t_desk_size, .ref h_t_desk_powers, .int t_desk_limit, .long x5])), (h_t_deeds, .inr (0, [.ref h_t_deeds_desks, .int (x6.1), .int (x6.2.1)])), (h_t_deeds_desks, .inl (cD, 9, .inr (.inr (.inr (.inr (fun i => some ((x6.2.2.2.1) i))))))), (((x6.2.2.2.1) 0), .inr (1, [.int ((x6.2.2.2.2.1) 0), .int ((x6.2.2.2.2.2.2.2.1) 0), .ref ((x6.2.2.2.2.2.2.1) 0), .int ((x6.2.2.2.2.2.1) 0), .long ((x6.2.2.2.2.2.2.2.2) 0)])), (((x6.2.2.2.2.2.2.1) 0), .inl (cI, 8, .inl ((x6.2.2.1) 0))), (((x6.2.2.2.1) 1), .inr (1, [.int ((x6.2.2.2.2.1) 1), .int ((x6.2.2.2.2.2.2.2.1) 1), .ref ((x6.2.2.2.2.2.2.1) 1), .int ((x6.2.2.2.2.2.1) 1), .long ((x6.2.2.2.2.2.2.2.2) 1)])), (((x6.2.2.2.2.2.2.1) 1), .inl (cI, 8, .inl ((x6.2.2.1) 1))), (((x6.2.2.2.1) 2), .inr (1, [.int ((x6.2.2.2.2.1) 2), .int ((x6.2.2.2.2.2.2.2.1) 2), .ref ((x6.2.2.2.2.2.2.1) 2), .int ((x6.2.2.2.2.2.1) 2), .long ((x6.2.2.2.2.2.2.2.2) 2)])), (((x6.2.2.2.2.2.2.1) 2), .inl (cI, 8, .inl ((x6.2.2.1) 2))), (((x6.2.2.2.1) 3), .inr (1, [.int ((x6.2.2.2.2.1) 3), .int ((x6.2.2.2.2.2.2.2.1) 3), .ref ((x6.2.2.2.2.2.2.1) 3), .int ((x6.2.2.2.2.2.1) 3), .long ((x6.2.2.2.2.2.2.2.2) 3)])), (((x6.2.2.2.2.2.2.1) 3), .inl (cI, 8, .inl ((x6.2.2.1) 3))), (((x6.2.2.2.1) 4), .inr (1, [.int ((x6.2.2.2.2.1) 4), .int ((x6.2.2.2.2.2.2.2.1) 4), .ref ((x6.2.2.2.2.2.2.1) 4), .int ((x6.2.2.2.2.2.1) 4), .long ((x6.2.2.2.2.2.2.2.2) 4)])), (((x6.2.2.2.2.2.2.1) 4), .inl (cI, 8, .inl ((x6.2.2.1) 4))), (((x6.2.2.2.1) 5), .inr (1, [.int ((x6.2.2.2.2.1) 5), .int ((x6.2.2.2.2.2.2.2.1) 5), .ref ((x6.2.2.2.2.2.2.1) 5), .int ((x6.2.2.2.2.2.1) 5), .long ((x6.2.2.2.2.2.2.2.2) 5)])), (((x6.2.2.2.2.2.2.1) 5), .inl (cI, 8, .inl ((x6.2.2.1) 5))), (((x6.2.2.2.1) 6), .inr (1, [.int ((x6.2.2.2.2.1) 6), .int ((x6.2.2.2.2.2.2.2.1) 6), .ref ((x6.2.2.2.2.2.2.1) 6), .int ((x6.2.2.2.2.2.1) 6), .long ((x6.2.2.2.2.2.2.2.2) 6)])), (((x6.2.2.2.2.2.2.1) 6), .inl (cI, 8, .inl ((x6.2.2.1) 6))), (((x6.2.2.2.1) 7), .inr (1, [.int ((x6.2.2.2.2.1) 7), .int ((x6.2.2.2.2.2.2.2.1) 7), .ref ((x6.2.2.2.2.2.2.1) 7), .int ((x6.2.2.2.2.2.1) 7), .long ((x6.2.2.2.2.2.2.2.2) 7)])), (((x6.2.2.2.2.2.2.1) 7), .inl (cI, 8, .inl ((x6.2.2.1) 7))), (((x6.2.2.2.1) 8), .inr (1, [.int ((x6.2.2.2.2.1) 8), .int ((x6.2.2.2.2.2.2.2.1) 8), .ref ((x6.2.2.2.2.2.2.1) 8), .int ((x6.2.2.2.2.2.1) 8), .long ((x6.2.2.2.2.2.2.2.2) 8)])), (((x6.2.2.2.2.2.2.1) 8), .inl (cI, 8, .inl ((x6.2.2.1) 8))), (h_t_desk_powers, .inl (cI, 8, .inl a_t_desk_powers))] [0, 2, 1, 3, 4, 5, 6, 7, 8, 9, 10, 11, 12, 13, 14, 15, 16, 17, 18, 19, 20, 21, 22] 22 (by decide +kernel) rfl rfl (fun hp6 H locs hP hD hS => ?_)
  refine lv_aload_n hx hb dX8_split_62 rfl (lv_at hl 0 rfl) ?_
  refine va_get (D := G) (ci := 7) (v := .ref h_t_desk) (C := RX8) (T := TX8) (N := 9) hx hb hts hinX8 hown hK hP 0 rfl rfl 0 (by decide) (hta _ mw_358) (fun _ h9 => h9) rfl dX8_split_63 ?_
  refine va_get (D := G) (ci := 1) (v := .long x5) (C := RX1) (T := TX1) (N := 5) hx hb hts hinX1 hown hK hP 1 rfl rfl 4 (by decide) (hta _ mw_480) (fun _ h9 => h9) rfl dX8_split_66 ?_
  obtain ⟨x7, hx7, h⟩ := bd_e h
  try dsimp only at h
  refine k_SiU (n := 1) (As := [.long x5]) (rest := []) hx hb hml hown hts (c_X6_sizeOf l G cI cJ cD cH H.size x5 x7 hx7) gX8_split_X6_sizeOf rfl rfl rfl (by decide +kernel) ⟨by first | exact Nat.le_of_ble_eq_true rfl | (simp only [headSpec]; omega), by first | exact Nat.le_of_ble_eq_true rfl | (simp only [headSpec]; omega)⟩ hK hP hD hS hA [] (by decide) rfl rfl rfl hl.1 (Nat.le_of_ble_eq_true rfl) dX8_split_69 ⟨Nat.zero_le _, Nat.zero_le _⟩ (fun hp7 H locs hP hS => ?_)
  have h9 := Option.some.inj h
  have e9 : x7 = r0 := congrArg (fun z9 => z9.1) h9
  rw [← e9]
  have e9 : x5 = w0 := congrArg (fun z9 => z9.2.1) h9
  rw [← e9]
  have e9 : (x6.1) = w1 := congrArg (fun z9 => z9.2.2.1) h9
  rw [← e9]
  have e9 : (x6.2.1) = w2 := congrArg (fun z9 => z9.2.2.2.1) h9
  rw [← e9]
  have e9 : (x6.2.2.1) = w3 := congrArg (fun z9 => z9.2.2.2.2.1) h9
  rw [← e9]
  have e9 : (x6.2.2.2.1) = w4 := congrArg (fun z9 => z9.2.2.2.2.2.1) h9
  rw [← e9]
  have e9 : (x6.2.2.2.2.1) = w5 := congrArg (fun z9 => z9.2.2.2.2.2.2.1) h9
  rw [← e9]
  have e9 : (x6.2.2.2.2.2.1) = w6 := congrArg (fun z9 => z9.2.2.2.2.2.2.2.1) h9
  rw [← e9]
  have e9 : (x6.2.2.2.2.2.2.1) = w7 := congrArg (fun z9 => z9.2.2.2.2.2.2.2.2.1) h9
  rw [← e9]
  have e9 : (x6.2.2.2.2.2.2.2.1) = w8 := congrArg (fun z9 => z9.2.2.2.2.2.2.2.2.2.1) h9
  rw [← e9]
  have e9 : (x6.2.2.2.2.2.2.2.2) = w9 := congrArg (fun z9 => z9.2.2.2.2.2.2.2.2.2.2) h9
  rw [← e9]
  exact k_iretP hx hb hr hlocks hD hP hS rfl dX8_split_72

/-! X8_join -/
set_option maxHeartbeats 40000000 in
set_option maxRecDepth 100000 in
theorem c_X8_join (l : Launch) (G : va_G) (cI cJ cD cH : ClassId) (sz : Nat) (h_t : Nat) (h_t_desk : Nat) (h_t_deeds : Nat) (h_t_deeds_desks : Nat) (h_t_desk_powers : Nat) (h_t_imageDesk : Nat) (h_t_numbers : Nat) (h_t_tape : Nat) (h_t_reader : Nat) (h_t_speller : Nat) (h_t_holders : Nat) (d_t_deeds_desks : Nat → Nat) (q_t_deeds_desks : Nat → Nat) (a_t_deeds_desks : Nat → Nat → Int32) (t_deeds_desks_genus : Nat → Int32) (t_deeds_desks_size : Nat → Int32) (t_deeds_desks_limit : Nat → Int32) (t_deeds_desks_tree : Nat → Int64) (t_imageKept : Int32) (t_desk_genus : Int32) (t_desk_size : Int32) (t_desk_limit : Int32) (t_desk_tree : Int64) (t_deeds_now : Int32) (t_deeds_last : Int32) (a_t_desk_powers : Nat → Int32) (p0 : Int32) (r0 : Int32) (w0 : Int64) (w1 : Int32) (w2 : Int32) (w3 : Nat → Nat → Int32) (w4 : Nat → Nat) (w5 : Nat → Int32) (w6 : Nat → Int32) (w7 : Nat → Nat) (w8 : Nat → Int32) (w9 : Nat → Int64) (hF : F_X8_join d_t_deeds_desks q_t_deeds_desks a_t_deeds_desks t_deeds_desks_genus t_deeds_desks_size t_deeds_desks_limit t_deeds_desks_tree t_desk_genus t_desk_size t_desk_limit t_desk_tree t_deeds_now t_deeds_last a_t_desk_powers p0 = some (r0, w0, w1, w2, w3, w4, w5, w6, w7, w8, w9)) : Met l yX8_join wsX8_join ({ frames := 4, cells := 0, slots := 0, locals := 86 }) (k_pre G (k_T cI cJ cD cH) [(h_t, .inr (7, [.ref h_t_desk, .ref h_t_imageDesk, .ref h_t_deeds, .ref h_t_numbers, .ref h_t_tape, .ref h_t_reader, .ref h_t_speller, .ref h_t_holders, .int t_imageKept])), (h_t_desk, .inr (1, [.int t_desk_genus, .int t_desk_size, .ref h_t_desk_powers, .int t_desk_limit, .long t_desk_tree])), (h_t_deeds, .inr (0, [.ref h_t_deeds_desks, .int t_deeds_now, .int t_deeds_last])), (h_t_deeds_desks, .inl (cD, 9, .inr (.inr (.inr (.inr (fun i => some (d_t_deeds_desks i))))))), ((d_t_deeds_desks 0), .inr (1, [.int (t_deeds_desks_genus 0), .int (t_deeds_desks_size 0), .ref (q_t_deeds_desks 0), .int (t_deeds_desks_limit 0), .long (t_deeds_desks_tree 0)])), ((q_t_deeds_desks 0), .inl (cI, 8, .inl (a_t_deeds_desks 0))), ((d_t_deeds_desks 1), .inr (1, [.int (t_deeds_desks_genus 1), .int (t_deeds_desks_size 1), .ref (q_t_deeds_desks 1), .int (t_deeds_desks_limit 1), .long (t_deeds_desks_tree 1)])), ((q_t_deeds_desks 1), .inl (cI, 8, .inl (a_t_deeds_desks 1))), ((d_t_deeds_desks 2), .inr (1, [.int (t_deeds_desks_genus 2), .int (t_deeds_desks_size 2), .ref (q_t_deeds_desks 2), .int (t_deeds_desks_limit 2), .long (t_deeds_desks_tree 2)])), ((q_t_deeds_desks 2), .inl (cI, 8, .inl (a_t_deeds_desks 2))), ((d_t_deeds_desks 3), .inr (1, [.int (t_deeds_desks_genus 3), .int (t_deeds_desks_size 3), .ref (q_t_deeds_desks 3), .int (t_deeds_desks_limit 3), .long (t_deeds_desks_tree 3)])), ((q_t_deeds_desks 3), .inl (cI, 8, .inl (a_t_deeds_desks 3))), ((d_t_deeds_desks 4), .inr (1, [.int (t_deeds_desks_genus 4), .int (t_deeds_desks_size 4), .ref (q_t_deeds_desks 4), .int (t_deeds_desks_limit 4), .long (t_deeds_desks_tree 4)])), ((q_t_deeds_desks 4), .inl (cI, 8, .inl (a_t_deeds_desks 4))), ((d_t_deeds_desks 5), .inr (1, [.int (t_deeds_desks_genus 5), .int (t_deeds_desks_size 5), .ref (q_t_deeds_desks 5), .int (t_deeds_desks_limit 5), .long (t_deeds_desks_tree 5)])), ((q_t_deeds_desks 5), .inl (cI, 8, .inl (a_t_deeds_desks 5))), ((d_t_deeds_desks 6), .inr (1, [.int (t_deeds_desks_genus 6), .int (t_deeds_desks_size 6), .ref (q_t_deeds_desks 6), .int (t_deeds_desks_limit 6), .long (t_deeds_desks_tree 6)])), ((q_t_deeds_desks 6), .inl (cI, 8, .inl (a_t_deeds_desks 6))), ((d_t_deeds_desks 7), .inr (1, [.int (t_deeds_desks_genus 7), .int (t_deeds_desks_size 7), .ref (q_t_deeds_desks 7), .int (t_deeds_desks_limit 7), .long (t_deeds_desks_tree 7)])), ((q_t_deeds_desks 7), .inl (cI, 8, .inl (a_t_deeds_desks 7))), ((d_t_deeds_desks 8), .inr (1, [.int (t_deeds_desks_genus 8), .int (t_deeds_desks_size 8), .ref (q_t_deeds_desks 8), .int (t_deeds_desks_limit 8), .long (t_deeds_desks_tree 8)])), ((q_t_deeds_desks 8), .inl (cI, 8, .inl (a_t_deeds_desks 8))), (h_t_desk_powers, .inl (cI, 8, .inl a_t_desk_powers))] sz [.ref h_t, .int p0]) (va_Qi (fun r (_ : Unit) => r = r0 ∧ True) (fun _ t => va_P G vwCl [(h_t, .inr (7, [.ref h_t_desk, .ref h_t_imageDesk, .ref h_t_deeds, .ref h_t_numbers, .ref h_t_tape, .ref h_t_reader, .ref h_t_speller, .ref h_t_holders, .int t_imageKept])), (h_t_desk, .inr (1, [.int t_desk_genus, .int t_desk_size, .ref h_t_desk_powers, .int t_desk_limit, .long w0])), (h_t_deeds, .inr (0, [.ref h_t_deeds_desks, .int w1, .int w2])), (h_t_deeds_desks, .inl (cD, 9, .inr (.inr (.inr (.inr (fun i => some (w4 i))))))), ((w4 0), .inr (1, [.int (w5 0), .int (w8 0), .ref (w7 0), .int (w6 0), .long (w9 0)])), ((w7 0), .inl (cI, 8, .inl (w3 0))), ((w4 1), .inr (1, [.int (w5 1), .int (w8 1), .ref (w7 1), .int (w6 1), .long (w9 1)])), ((w7 1), .inl (cI, 8, .inl (w3 1))), ((w4 2), .inr (1, [.int (w5 2), .int (w8 2), .ref (w7 2), .int (w6 2), .long (w9 2)])), ((w7 2), .inl (cI, 8, .inl (w3 2))), ((w4 3), .inr (1, [.int (w5 3), .int (w8 3), .ref (w7 3), .int (w6 3), .long (w9 3)])), ((w7 3), .inl (cI, 8, .inl (w3 3))), ((w4 4), .inr (1, [.int (w5 4), .int (w8 4), .ref (w7 4), .int (w6 4), .long (w9 4)])), ((w7 4), .inl (cI, 8, .inl (w3 4))), ((w4 5), .inr (1, [.int (w5 5), .int (w8 5), .ref (w7 5), .int (w6 5), .long (w9 5)])), ((w7 5), .inl (cI, 8, .inl (w3 5))), ((w4 6), .inr (1, [.int (w5 6), .int (w8 6), .ref (w7 6), .int (w6 6), .long (w9 6)])), ((w7 6), .inl (cI, 8, .inl (w3 6))), ((w4 7), .inr (1, [.int (w5 7), .int (w8 7), .ref (w7 7), .int (w6 7), .long (w9 7)])), ((w7 7), .inl (cI, 8, .inl (w3 7))), ((w4 8), .inr (1, [.int (w5 8), .int (w8 8), .ref (w7 8), .int (w6 8), .long (w9 8)])), ((w7 8), .inl (cI, 8, .inl (w3 8))), (h_t_desk_powers, .inl (cI, 8, .inl a_t_desk_powers))] t.heap ∧ va_D (va_A [(h_t, .inr (7, [.ref h_t_desk, .ref h_t_imageDesk, .ref h_t_deeds, .ref h_t_numbers, .ref h_t_tape, .ref h_t_reader, .ref h_t_speller, .ref h_t_holders, .int t_imageKept])), (h_t_desk, .inr (1, [.int t_desk_genus, .int t_desk_size, .ref h_t_desk_powers, .int t_desk_limit, .long t_desk_tree])), (h_t_deeds, .inr (0, [.ref h_t_deeds_desks, .int t_deeds_now, .int t_deeds_last])), (h_t_deeds_desks, .inl (cD, 9, .inr (.inr (.inr (.inr (fun i => some (d_t_deeds_desks i))))))), ((d_t_deeds_desks 0), .inr (1, [.int (t_deeds_desks_genus 0), .int (t_deeds_desks_size 0), .ref (q_t_deeds_desks 0), .int (t_deeds_desks_limit 0), .long (t_deeds_desks_tree 0)])), ((q_t_deeds_desks 0), .inl (cI, 8, .inl (a_t_deeds_desks 0))), ((d_t_deeds_desks 1), .inr (1, [.int (t_deeds_desks_genus 1), .int (t_deeds_desks_size 1), .ref (q_t_deeds_desks 1), .int (t_deeds_desks_limit 1), .long (t_deeds_desks_tree 1)])), ((q_t_deeds_desks 1), .inl (cI, 8, .inl (a_t_deeds_desks 1))), ((d_t_deeds_desks 2), .inr (1, [.int (t_deeds_desks_genus 2), .int (t_deeds_desks_size 2), .ref (q_t_deeds_desks 2), .int (t_deeds_desks_limit 2), .long (t_deeds_desks_tree 2)])), ((q_t_deeds_desks 2), .inl (cI, 8, .inl (a_t_deeds_desks 2))), ((d_t_deeds_desks 3), .inr (1, [.int (t_deeds_desks_genus 3), .int (t_deeds_desks_size 3), .ref (q_t_deeds_desks 3), .int (t_deeds_desks_limit 3), .long (t_deeds_desks_tree 3)])), ((q_t_deeds_desks 3), .inl (cI, 8, .inl (a_t_deeds_desks 3))), ((d_t_deeds_desks 4), .inr (1, [.int (t_deeds_desks_genus 4), .int (t_deeds_desks_size 4), .ref (q_t_deeds_desks 4), .int (t_deeds_desks_limit 4), .long (t_deeds_desks_tree 4)])), ((q_t_deeds_desks 4), .inl (cI, 8, .inl (a_t_deeds_desks 4))), ((d_t_deeds_desks 5), .inr (1, [.int (t_deeds_desks_genus 5), .int (t_deeds_desks_size 5), .ref (q_t_deeds_desks 5), .int (t_deeds_desks_limit 5), .long (t_deeds_desks_tree 5)])), ((q_t_deeds_desks 5), .inl (cI, 8, .inl (a_t_deeds_desks 5))), ((d_t_deeds_desks 6), .inr (1, [.int (t_deeds_desks_genus 6), .int (t_deeds_desks_size 6), .ref (q_t_deeds_desks 6), .int (t_deeds_desks_limit 6), .long (t_deeds_desks_tree 6)])), ((q_t_deeds_desks 6), .inl (cI, 8, .inl (a_t_deeds_desks 6))), ((d_t_deeds_desks 7), .inr (1, [.int (t_deeds_desks_genus 7), .int (t_deeds_desks_size 7), .ref (q_t_deeds_desks 7), .int (t_deeds_desks_limit 7), .long (t_deeds_desks_tree 7)])), ((q_t_deeds_desks 7), .inl (cI, 8, .inl (a_t_deeds_desks 7))), ((d_t_deeds_desks 8), .inr (1, [.int (t_deeds_desks_genus 8), .int (t_deeds_desks_size 8), .ref (q_t_deeds_desks 8), .int (t_deeds_desks_limit 8), .long (t_deeds_desks_tree 8)])), ((q_t_deeds_desks 8), .inl (cI, 8, .inl (a_t_deeds_desks 8))), (h_t_desk_powers, .inl (cI, 8, .inl a_t_desk_powers))] sz) [(h_t, .inr (7, [.ref h_t_desk, .ref h_t_imageDesk, .ref h_t_deeds, .ref h_t_numbers, .ref h_t_tape, .ref h_t_reader, .ref h_t_speller, .ref h_t_holders, .int t_imageKept])), (h_t_desk, .inr (1, [.int t_desk_genus, .int t_desk_size, .ref h_t_desk_powers, .int t_desk_limit, .long w0])), (h_t_deeds, .inr (0, [.ref h_t_deeds_desks, .int w1, .int w2])), (h_t_deeds_desks, .inl (cD, 9, .inr (.inr (.inr (.inr (fun i => some (w4 i))))))), ((w4 0), .inr (1, [.int (w5 0), .int (w8 0), .ref (w7 0), .int (w6 0), .long (w9 0)])), ((w7 0), .inl (cI, 8, .inl (w3 0))), ((w4 1), .inr (1, [.int (w5 1), .int (w8 1), .ref (w7 1), .int (w6 1), .long (w9 1)])), ((w7 1), .inl (cI, 8, .inl (w3 1))), ((w4 2), .inr (1, [.int (w5 2), .int (w8 2), .ref (w7 2), .int (w6 2), .long (w9 2)])), ((w7 2), .inl (cI, 8, .inl (w3 2))), ((w4 3), .inr (1, [.int (w5 3), .int (w8 3), .ref (w7 3), .int (w6 3), .long (w9 3)])), ((w7 3), .inl (cI, 8, .inl (w3 3))), ((w4 4), .inr (1, [.int (w5 4), .int (w8 4), .ref (w7 4), .int (w6 4), .long (w9 4)])), ((w7 4), .inl (cI, 8, .inl (w3 4))), ((w4 5), .inr (1, [.int (w5 5), .int (w8 5), .ref (w7 5), .int (w6 5), .long (w9 5)])), ((w7 5), .inl (cI, 8, .inl (w3 5))), ((w4 6), .inr (1, [.int (w5 6), .int (w8 6), .ref (w7 6), .int (w6 6), .long (w9 6)])), ((w7 6), .inl (cI, 8, .inl (w3 6))), ((w4 7), .inr (1, [.int (w5 7), .int (w8 7), .ref (w7 7), .int (w6 7), .long (w9 7)])), ((w7 7), .inl (cI, 8, .inl (w3 7))), ((w4 8), .inr (1, [.int (w5 8), .int (w8 8), .ref (w7 8), .int (w6 8), .long (w9 8)])), ((w7 8), .inl (cI, 8, .inl (w3 8))), (h_t_desk_powers, .inl (cI, 8, .inl a_t_desk_powers))]) (va_A [(h_t, .inr (7, [.ref h_t_desk, .ref h_t_imageDesk, .ref h_t_deeds, .ref h_t_numbers, .ref h_t_tape, .ref h_t_reader, .ref h_t_speller, .ref h_t_holders, .int t_imageKept])), (h_t_desk, .inr (1, [.int t_desk_genus, .int t_desk_size, .ref h_t_desk_powers, .int t_desk_limit, .long t_desk_tree])), (h_t_deeds, .inr (0, [.ref h_t_deeds_desks, .int t_deeds_now, .int t_deeds_last])), (h_t_deeds_desks, .inl (cD, 9, .inr (.inr (.inr (.inr (fun i => some (d_t_deeds_desks i))))))), ((d_t_deeds_desks 0), .inr (1, [.int (t_deeds_desks_genus 0), .int (t_deeds_desks_size 0), .ref (q_t_deeds_desks 0), .int (t_deeds_desks_limit 0), .long (t_deeds_desks_tree 0)])), ((q_t_deeds_desks 0), .inl (cI, 8, .inl (a_t_deeds_desks 0))), ((d_t_deeds_desks 1), .inr (1, [.int (t_deeds_desks_genus 1), .int (t_deeds_desks_size 1), .ref (q_t_deeds_desks 1), .int (t_deeds_desks_limit 1), .long (t_deeds_desks_tree 1)])), ((q_t_deeds_desks 1), .inl (cI, 8, .inl (a_t_deeds_desks 1))), ((d_t_deeds_desks 2), .inr (1, [.int (t_deeds_desks_genus 2), .int (t_deeds_desks_size 2), .ref (q_t_deeds_desks 2), .int (t_deeds_desks_limit 2), .long (t_deeds_desks_tree 2)])), ((q_t_deeds_desks 2), .inl (cI, 8, .inl (a_t_deeds_desks 2))), ((d_t_deeds_desks 3), .inr (1, [.int (t_deeds_desks_genus 3), .int (t_deeds_desks_size 3), .ref (q_t_deeds_desks 3), .int (t_deeds_desks_limit 3), .long (t_deeds_desks_tree 3)])), ((q_t_deeds_desks 3), .inl (cI, 8, .inl (a_t_deeds_desks 3))), ((d_t_deeds_desks 4), .inr (1, [.int (t_deeds_desks_genus 4), .int (t_deeds_desks_size 4), .ref (q_t_deeds_desks 4), .int (t_deeds_desks_limit 4), .long (t_deeds_desks_tree 4)])), ((q_t_deeds_desks 4), .inl (cI, 8, .inl (a_t_deeds_desks 4))), ((d_t_deeds_desks 5), .inr (1, [.int (t_deeds_desks_genus 5), .int (t_deeds_desks_size 5), .ref (q_t_deeds_desks 5), .int (t_deeds_desks_limit 5), .long (t_deeds_desks_tree 5)])), ((q_t_deeds_desks 5), .inl (cI, 8, .inl (a_t_deeds_desks 5))), ((d_t_deeds_desks 6), .inr (1, [.int (t_deeds_desks_genus 6), .int (t_deeds_desks_size 6), .ref (q_t_deeds_desks 6), .int (t_deeds_desks_limit 6), .long (t_deeds_desks_tree 6)])), ((q_t_deeds_desks 6), .inl (cI, 8, .inl (a_t_deeds_desks 6))), ((d_t_deeds_desks 7), .inr (1, [.int (t_deeds_desks_genus 7), .int (t_deeds_desks_size 7), .ref (q_t_deeds_desks 7), .int (t_deeds_desks_limit 7), .long (t_deeds_desks_tree 7)])), ((q_t_deeds_desks 7), .inl (cI, 8, .inl (a_t_deeds_desks 7))), ((d_t_deeds_desks 8), .inr (1, [.int (t_deeds_desks_genus 8), .int (t_deeds_desks_size 8), .ref (q_t_deeds_desks 8), .int (t_deeds_desks_limit 8), .long (t_deeds_desks_tree 8)])), ((q_t_deeds_desks 8), .inl (cI, 8, .inl (a_t_deeds_desks 8))), (h_t_desk_powers, .inl (cI, 8, .inl a_t_desk_powers))] sz)) 0 0 (va_A [(h_t, .inr (7, [.ref h_t_desk, .ref h_t_imageDesk, .ref h_t_deeds, .ref h_t_numbers, .ref h_t_tape, .ref h_t_reader, .ref h_t_speller, .ref h_t_holders, .int t_imageKept])), (h_t_desk, .inr (1, [.int t_desk_genus, .int t_desk_size, .ref h_t_desk_powers, .int t_desk_limit, .long t_desk_tree])), (h_t_deeds, .inr (0, [.ref h_t_deeds_desks, .int t_deeds_now, .int t_deeds_last])), (h_t_deeds_desks, .inl (cD, 9, .inr (.inr (.inr (.inr (fun i => some (d_t_deeds_desks i))))))), ((d_t_deeds_desks 0), .inr (1, [.int (t_deeds_desks_genus 0), .int (t_deeds_desks_size 0), .ref (q_t_deeds_desks 0), .int (t_deeds_desks_limit 0), .long (t_deeds_desks_tree 0)])), ((q_t_deeds_desks 0), .inl (cI, 8, .inl (a_t_deeds_desks 0))), ((d_t_deeds_desks 1), .inr (1, [.int (t_deeds_desks_genus 1), .int (t_deeds_desks_size 1), .ref (q_t_deeds_desks 1), .int (t_deeds_desks_limit 1), .long (t_deeds_desks_tree 1)])), ((q_t_deeds_desks 1), .inl (cI, 8, .inl (a_t_deeds_desks 1))), ((d_t_deeds_desks 2), .inr (1, [.int (t_deeds_desks_genus 2), .int (t_deeds_desks_size 2), .ref (q_t_deeds_desks 2), .int (t_deeds_desks_limit 2), .long (t_deeds_desks_tree 2)])), ((q_t_deeds_desks 2), .inl (cI, 8, .inl (a_t_deeds_desks 2))), ((d_t_deeds_desks 3), .inr (1, [.int (t_deeds_desks_genus 3), .int (t_deeds_desks_size 3), .ref (q_t_deeds_desks 3), .int (t_deeds_desks_limit 3), .long (t_deeds_desks_tree 3)])), ((q_t_deeds_desks 3), .inl (cI, 8, .inl (a_t_deeds_desks 3))), ((d_t_deeds_desks 4), .inr (1, [.int (t_deeds_desks_genus 4), .int (t_deeds_desks_size 4), .ref (q_t_deeds_desks 4), .int (t_deeds_desks_limit 4), .long (t_deeds_desks_tree 4)])), ((q_t_deeds_desks 4), .inl (cI, 8, .inl (a_t_deeds_desks 4))), ((d_t_deeds_desks 5), .inr (1, [.int (t_deeds_desks_genus 5), .int (t_deeds_desks_size 5), .ref (q_t_deeds_desks 5), .int (t_deeds_desks_limit 5), .long (t_deeds_desks_tree 5)])), ((q_t_deeds_desks 5), .inl (cI, 8, .inl (a_t_deeds_desks 5))), ((d_t_deeds_desks 6), .inr (1, [.int (t_deeds_desks_genus 6), .int (t_deeds_desks_size 6), .ref (q_t_deeds_desks 6), .int (t_deeds_desks_limit 6), .long (t_deeds_desks_tree 6)])), ((q_t_deeds_desks 6), .inl (cI, 8, .inl (a_t_deeds_desks 6))), ((d_t_deeds_desks 7), .inr (1, [.int (t_deeds_desks_genus 7), .int (t_deeds_desks_size 7), .ref (q_t_deeds_desks 7), .int (t_deeds_desks_limit 7), .long (t_deeds_desks_tree 7)])), ((q_t_deeds_desks 7), .inl (cI, 8, .inl (a_t_deeds_desks 7))), ((d_t_deeds_desks 8), .inr (1, [.int (t_deeds_desks_genus 8), .int (t_deeds_desks_size 8), .ref (q_t_deeds_desks 8), .int (t_deeds_desks_limit 8), .long (t_deeds_desks_tree 8)])), ((q_t_deeds_desks 8), .inl (cI, 8, .inl (a_t_deeds_desks 8))), (h_t_desk_powers, .inl (cI, 8, .inl a_t_desk_powers))] sz) := by
  refine Met.ofW (cc := cX8_join) (maxL := 2) (ret := (some .int)) (by decide) rfl ?_
  intro p e s m args below meth c s₁ B hml hv
  obtain ⟨rfl, hsz, hP, hK, hD0⟩ := hv
  have hx := B.exec
  have hb := B.bytes
  have hr := B.returns
  have hts := atoms_spec (ws := wsX8_join) B.pre
  have hta : ∀ w ∈ wA, w.before ([.ref h_t, .int p0] : List Value).toArray s = true := hta_of hts
  have hown : s.vm.findClass RX8 = some m.cls := findClass_of_methodNamed B.named
  have hlocks := B.notSynchronized
  subst hsz
  have hD := hD0.self (sz := s.heap.size)
  generalize hAe : va_A [(h_t, .inr (7, [.ref h_t_desk, .ref h_t_imageDesk, .ref h_t_deeds, .ref h_t_numbers, .ref h_t_tape, .ref h_t_reader, .ref h_t_speller, .ref h_t_holders, .int t_imageKept])), (h_t_desk, .inr (1, [.int t_desk_genus, .int t_desk_size, .ref h_t_desk_powers, .int t_desk_limit, .long t_desk_tree])), (h_t_deeds, .inr (0, [.ref h_t_deeds_desks, .int t_deeds_now, .int t_deeds_last])), (h_t_deeds_desks, .inl (cD, 9, .inr (.inr (.inr (.inr (fun i => some (d_t_deeds_desks i))))))), ((d_t_deeds_desks 0), .inr (1, [.int (t_deeds_desks_genus 0), .int (t_deeds_desks_size 0), .ref (q_t_deeds_desks 0), .int (t_deeds_desks_limit 0), .long (t_deeds_desks_tree 0)])), ((q_t_deeds_desks 0), .inl (cI, 8, .inl (a_t_deeds_desks 0))), ((d_t_deeds_desks 1), .inr (1, [.int (t_deeds_desks_genus 1), .int (t_deeds_desks_size 1), .ref (q_t_deeds_desks 1), .int (t_deeds_desks_limit 1), .long (t_deeds_desks_tree 1)])), ((q_t_deeds_desks 1), .inl (cI, 8, .inl (a_t_deeds_desks 1))), ((d_t_deeds_desks 2), .inr (1, [.int (t_deeds_desks_genus 2), .int (t_deeds_desks_size 2), .ref (q_t_deeds_desks 2), .int (t_deeds_desks_limit 2), .long (t_deeds_desks_tree 2)])), ((q_t_deeds_desks 2), .inl (cI, 8, .inl (a_t_deeds_desks 2))), ((d_t_deeds_desks 3), .inr (1, [.int (t_deeds_desks_genus 3), .int (t_deeds_desks_size 3), .ref (q_t_deeds_desks 3), .int (t_deeds_desks_limit 3), .long (t_deeds_desks_tree 3)])), ((q_t_deeds_desks 3), .inl (cI, 8, .inl (a_t_deeds_desks 3))), ((d_t_deeds_desks 4), .inr (1, [.int (t_deeds_desks_genus 4), .int (t_deeds_desks_size 4), .ref (q_t_deeds_desks 4), .int (t_deeds_desks_limit 4), .long (t_deeds_desks_tree 4)])), ((q_t_deeds_desks 4), .inl (cI, 8, .inl (a_t_deeds_desks 4))), ((d_t_deeds_desks 5), .inr (1, [.int (t_deeds_desks_genus 5), .int (t_deeds_desks_size 5), .ref (q_t_deeds_desks 5), .int (t_deeds_desks_limit 5), .long (t_deeds_desks_tree 5)])), ((q_t_deeds_desks 5), .inl (cI, 8, .inl (a_t_deeds_desks 5))), ((d_t_deeds_desks 6), .inr (1, [.int (t_deeds_desks_genus 6), .int (t_deeds_desks_size 6), .ref (q_t_deeds_desks 6), .int (t_deeds_desks_limit 6), .long (t_deeds_desks_tree 6)])), ((q_t_deeds_desks 6), .inl (cI, 8, .inl (a_t_deeds_desks 6))), ((d_t_deeds_desks 7), .inr (1, [.int (t_deeds_desks_genus 7), .int (t_deeds_desks_size 7), .ref (q_t_deeds_desks 7), .int (t_deeds_desks_limit 7), .long (t_deeds_desks_tree 7)])), ((q_t_deeds_desks 7), .inl (cI, 8, .inl (a_t_deeds_desks 7))), ((d_t_deeds_desks 8), .inr (1, [.int (t_deeds_desks_genus 8), .int (t_deeds_desks_size 8), .ref (q_t_deeds_desks 8), .int (t_deeds_desks_limit 8), .long (t_deeds_desks_tree 8)])), ((q_t_deeds_desks 8), .inl (cI, 8, .inl (a_t_deeds_desks 8))), (h_t_desk_powers, .inl (cI, 8, .inl a_t_desk_powers))] s.heap.size = A at hD ⊢
  have hA : ∀ q : Nat, s.heap.size ≤ q → A q := fun q h => by rw [← hAe]; exact Or.inr h
  have hS : va_S A s.heap s.heap [] := va_S.rf
  have hl := lv_entry ([.ref h_t, .int p0]) (n := 2) (Nat.le_of_ble_eq_true rfl)
  rw [lg_entry_eq]
  generalize (lg_sl ([.ref h_t, .int p0]) ++ List.replicate (2 - (lg_sl ([.ref h_t, .int p0])).length) Slot.unset).toArray = ls at hl ⊢
  have hl : lv_has ls 2 [(0, .ref h_t), (1, .int p0)] := hl
  have hinX1 : ∀ w ∈ wsX10, w ∈ wsX8_join := hin_of in_X1
  have hinX8 : ∀ w ∈ wsX80, w ∈ wsX8_join := hin_of in_X8
  have h := hF
  unfold F_X8_join at h
  refine lv_iload_n hx hb dX8_join_0 rfl (lv_at hl 1 rfl) ?_
  refine lv_aload_n hx hb dX8_join_1 rfl (lv_at hl 0 rfl) ?_
  refine va_get (D := G) (ci := 7) (v := .ref h_t_desk) (C := RX8) (T := TX8) (N := 9) hx hb hts hinX8 hown hK hP 0 rfl rfl 0 (by decide) (hta _ mw_358) (fun _ h9 => h9) rfl dX8_join_2 ?_
  refine va_get (D := G) (ci := 1) (v := .int t_desk_limit) (C := RX1) (T := TX1) (N := 5) hx hb hts hinX1 hown hK hP 1 rfl rfl 3 (by decide) (hta _ mw_479) (fun _ h9 => h9) rfl dX8_join_5 ?_
  obtain ⟨x1, hx1, h⟩ := bd_e h
  try dsimp only at h
  refine k_SiU (n := 2) (As := [.int p0, .int t_desk_limit]) (rest := []) hx hb hml hown hts (c_X6_isSplit l G cI cJ cD cH s.heap.size p0 t_desk_limit x1 hx1) gX8_join_X6_isSplit rfl rfl rfl (by decide +kernel) ⟨by first | exact Nat.le_of_ble_eq_true rfl | (simp only [headSpec]; omega), by first | exact Nat.le_of_ble_eq_true rfl | (simp only [headSpec]; omega)⟩ hK hP hD hS hA [] (by decide) rfl rfl rfl hl.1 (Nat.le_of_ble_eq_true rfl) dX8_join_8 ⟨Nat.zero_le _, Nat.zero_le _⟩ (fun hp1 H locs hP hS => ?_)
  refine lv_if_ne (tgt := 16) hx hb dX8_join_11 (by decide) (fun c2 => ?_) (fun c2 => ?_)
  rotate_left
  · have h := it_p h c2
    refine lv_iconst (v := (-1 : Int32)) hx hb dX8_join_14 (by decide) ?_
    have h9 := Option.some.inj h
    have e9 : (-1 : Int32) = r0 := congrArg (fun z9 => z9.1) h9
    rw [← e9]
    have e9 : t_desk_tree = w0 := congrArg (fun z9 => z9.2.1) h9
    rw [← e9]
    have e9 : t_deeds_now = w1 := congrArg (fun z9 => z9.2.2.1) h9
    rw [← e9]
    have e9 : t_deeds_last = w2 := congrArg (fun z9 => z9.2.2.2.1) h9
    rw [← e9]
    have e9 : a_t_deeds_desks = w3 := congrArg (fun z9 => z9.2.2.2.2.1) h9
    rw [← e9]
    have e9 : d_t_deeds_desks = w4 := congrArg (fun z9 => z9.2.2.2.2.2.1) h9
    rw [← e9]
    have e9 : t_deeds_desks_genus = w5 := congrArg (fun z9 => z9.2.2.2.2.2.2.1) h9
    rw [← e9]
    have e9 : t_deeds_desks_limit = w6 := congrArg (fun z9 => z9.2.2.2.2.2.2.2.1) h9
    rw [← e9]
    have e9 : q_t_deeds_desks = w7 := congrArg (fun z9 => z9.2.2.2.2.2.2.2.2.1) h9
    rw [← e9]
    have e9 : t_deeds_desks_size = w8 := congrArg (fun z9 => z9.2.2.2.2.2.2.2.2.2.1) h9
    rw [← e9]
    have e9 : t_deeds_desks_tree = w9 := congrArg (fun z9 => z9.2.2.2.2.2.2.2.2.2.2) h9
    rw [← e9]
    exact k_iretP hx hb hr hlocks hD hP hS rfl dX8_join_15
  have h := it_n h c2
  refine lv_aload_n hx hb dX8_join_16 rfl (lv_at hl 0 rfl) ?_
  refine va_get (D := G) (ci := 7) (v := .ref h_t_desk) (C := RX8) (T := TX8) (N := 9) hx hb hts hinX8 hown hK hP 0 rfl rfl 0 (by decide) (hta _ mw_358) (fun _ h9 => h9) rfl dX8_join_17 ?_
  refine va_get (D := G) (ci := 1) (v := .long t_desk_tree) (C := RX1) (T := TX1) (N := 5) hx hb hts hinX1 hown hK hP 1 rfl rfl 4 (by decide) (hta _ mw_480) (fun _ h9 => h9) rfl dX8_join_20 ?_
  refine lv_iload_n hx hb dX8_join_23 rfl (lv_at hl 1 rfl) ?_
  obtain ⟨x3, hx3, h⟩ := bd_e h
  try dsimp only at h
  refine k_SiU (n := 2) (As := [.long t_desk_tree, .int p0]) (rest := []) hx hb hml hown hts (c_X6_has l G cI cJ cD cH H.size t_desk_tree p0 x3 hx3) gX8_join_X6_has rfl rfl rfl (by decide +kernel) ⟨by first | exact Nat.le_of_ble_eq_true rfl | (simp only [headSpec]; omega), by first | exact Nat.le_of_ble_eq_true rfl | (simp only [headSpec]; omega)⟩ hK hP hD hS hA [] (by decide) rfl rfl rfl hl.1 (Nat.le_of_ble_eq_true rfl) dX8_join_24 ⟨Nat.zero_le _, Nat.zero_le _⟩ (fun hp3 H locs hP hS => ?_)
  refine lv_if_ne (tgt := 33) hx hb dX8_join_27 (by decide) (fun c4 => ?_) (fun c4 => ?_)
  rotate_left
  · have h := it_p h c4
    refine lv_bipush (v := (-5 : Int32)) hx hb dX8_join_30 (by decide) ?_
    have h9 := Option.some.inj h
    have e9 : (-5 : Int32) = r0 := congrArg (fun z9 => z9.1) h9
    rw [← e9]
    have e9 : t_desk_tree = w0 := congrArg (fun z9 => z9.2.1) h9
    rw [← e9]
    have e9 : t_deeds_now = w1 := congrArg (fun z9 => z9.2.2.1) h9
    rw [← e9]
    have e9 : t_deeds_last = w2 := congrArg (fun z9 => z9.2.2.2.1) h9
    rw [← e9]
    have e9 : a_t_deeds_desks = w3 := congrArg (fun z9 => z9.2.2.2.2.1) h9
    rw [← e9]
    have e9 : d_t_deeds_desks = w4 := congrArg (fun z9 => z9.2.2.2.2.2.1) h9
    rw [← e9]
    have e9 : t_deeds_desks_genus = w5 := congrArg (fun z9 => z9.2.2.2.2.2.2.1) h9
    rw [← e9]
    have e9 : t_deeds_desks_limit = w6 := congrArg (fun z9 => z9.2.2.2.2.2.2.2.1) h9
    rw [← e9]
    have e9 : q_t_deeds_desks = w7 := congrArg (fun z9 => z9.2.2.2.2.2.2.2.2.1) h9
    rw [← e9]
    have e9 : t_deeds_desks_size = w8 := congrArg (fun z9 => z9.2.2.2.2.2.2.2.2.2.1) h9
    rw [← e9]
    have e9 : t_deeds_desks_tree = w9 := congrArg (fun z9 => z9.2.2.2.2.2.2.2.2.2.2) h9
    rw [← e9]
    exact k_iretP hx hb hr hlocks hD hP hS rfl dX8_join_32
  have h := it_n h c4
  refine lv_aload_n hx hb dX8_join_33 rfl (lv_at hl 0 rfl) ?_
  refine va_get (D := G) (ci := 7) (v := .ref h_t_desk) (C := RX8) (T := TX8) (N := 9) hx hb hts hinX8 hown hK hP 0 rfl rfl 0 (by decide) (hta _ mw_358) (fun _ h9 => h9) rfl dX8_join_34 ?_
  refine lv_aload_n hx hb dX8_join_37 rfl (lv_at hl 0 rfl) ?_
  refine va_get (D := G) (ci := 7) (v := .ref h_t_desk) (C := RX8) (T := TX8) (N := 9) hx hb hts hinX8 hown hK hP 0 rfl rfl 0 (by decide) (hta _ mw_358) (fun _ h9 => h9) rfl dX8_join_38 ?_
  refine va_get (D := G) (ci := 1) (v := .long t_desk_tree) (C := RX1) (T := TX1) (N := 5) hx hb hts hinX1 hown hK hP 1 rfl rfl 4 (by decide) (hta _ mw_480) (fun _ h9 => h9) rfl dX8_join_41 ?_
  refine lv_iload_n hx hb dX8_join_44 rfl (lv_at hl 1 rfl) ?_
  obtain ⟨x5, hx5, h⟩ := bd_e h
  try dsimp only at h
  refine k_SlU (n := 2) (As := [.long t_desk_tree, .int p0]) (rest := [.ref h_t_desk]) hx hb hml hown hts (c_X6_without l G cI cJ cD cH H.size t_desk_tree p0 x5 hx5) gX8_join_X6_without rfl rfl rfl (by decide +kernel) ⟨by first | exact Nat.le_of_ble_eq_true rfl | (simp only [headSpec]; omega), by first | exact Nat.le_of_ble_eq_true rfl | (simp only [headSpec]; omega)⟩ hK hP hD hS hA [] (by decide) rfl rfl rfl hl.1 (Nat.le_of_ble_eq_true rfl) dX8_join_45 ⟨Nat.zero_le _, Nat.zero_le _⟩ (fun hp5 H locs hP hS => ?_)
  refine va_put (D := G) (ci := 1) (v := .long x5) (ty := .long) (C := RX1) (T := TX1) (N := 5) hx hb hts hinX1 tyX1 tyX1_ok nmX1 hown hK hP hD hS 1 rfl rfl 4 (by decide) (hta _ mw_480) (fun _ h9 => h9) rfl (by decide +kernel) rfl rfl (Nat.le_of_ble_eq_true rfl) dX8_join_48 (fun H locs hP hD hS => ?_)
  have hP : va_P G vwCl [(h_t, .inr (7, [.ref h_t_desk, .ref h_t_imageDesk, .ref h_t_deeds, .ref h_t_numbers, .ref h_t_tape, .ref h_t_reader, .ref h_t_speller, .ref h_t_holders, .int t_imageKept])), (h_t_desk, .inr (1, [.int t_desk_genus, .int t_desk_size, .ref h_t_desk_powers, .int t_desk_limit, .long x5])), (h_t_deeds, .inr (0, [.ref h_t_deeds_desks, .int t_deeds_now, .int t_deeds_last])), (h_t_deeds_desks, .inl (cD, 9, .inr (.inr (.inr (.inr (fun i => some (d_t_deeds_desks i))))))), ((d_t_deeds_desks 0), .inr (1, [.int (t_deeds_desks_genus 0), .int (t_deeds_desks_size 0), .ref (q_t_deeds_desks 0), .int (t_deeds_desks_limit 0), .long (t_deeds_desks_tree 0)])), ((q_t_deeds_desks 0), .inl (cI, 8, .inl (a_t_deeds_desks 0))), ((d_t_deeds_desks 1), .inr (1, [.int (t_deeds_desks_genus 1), .int (t_deeds_desks_size 1), .ref (q_t_deeds_desks 1), .int (t_deeds_desks_limit 1), .long (t_deeds_desks_tree 1)])), ((q_t_deeds_desks 1), .inl (cI, 8, .inl (a_t_deeds_desks 1))), ((d_t_deeds_desks 2), .inr (1, [.int (t_deeds_desks_genus 2), .int (t_deeds_desks_size 2), .ref (q_t_deeds_desks 2), .int (t_deeds_desks_limit 2), .long (t_deeds_desks_tree 2)])), ((q_t_deeds_desks 2), .inl (cI, 8, .inl (a_t_deeds_desks 2))), ((d_t_deeds_desks 3), .inr (1, [.int (t_deeds_desks_genus 3), .int (t_deeds_desks_size 3), .ref (q_t_deeds_desks 3), .int (t_deeds_desks_limit 3), .long (t_deeds_desks_tree 3)])), ((q_t_deeds_desks 3), .inl (cI, 8, .inl (a_t_deeds_desks 3))), ((d_t_deeds_desks 4), .inr (1, [.int (t_deeds_desks_genus 4), .int (t_deeds_desks_size 4), .ref (q_t_deeds_desks 4), .int (t_deeds_desks_limit 4), .long (t_deeds_desks_tree 4)])), ((q_t_deeds_desks 4), .inl (cI, 8, .inl (a_t_deeds_desks 4))), ((d_t_deeds_desks 5), .inr (1, [.int (t_deeds_desks_genus 5), .int (t_deeds_desks_size 5), .ref (q_t_deeds_desks 5), .int (t_deeds_desks_limit 5), .long (t_deeds_desks_tree 5)])), ((q_t_deeds_desks 5), .inl (cI, 8, .inl (a_t_deeds_desks 5))), ((d_t_deeds_desks 6), .inr (1, [.int (t_deeds_desks_genus 6), .int (t_deeds_desks_size 6), .ref (q_t_deeds_desks 6), .int (t_deeds_desks_limit 6), .long (t_deeds_desks_tree 6)])), ((q_t_deeds_desks 6), .inl (cI, 8, .inl (a_t_deeds_desks 6))), ((d_t_deeds_desks 7), .inr (1, [.int (t_deeds_desks_genus 7), .int (t_deeds_desks_size 7), .ref (q_t_deeds_desks 7), .int (t_deeds_desks_limit 7), .long (t_deeds_desks_tree 7)])), ((q_t_deeds_desks 7), .inl (cI, 8, .inl (a_t_deeds_desks 7))), ((d_t_deeds_desks 8), .inr (1, [.int (t_deeds_desks_genus 8), .int (t_deeds_desks_size 8), .ref (q_t_deeds_desks 8), .int (t_deeds_desks_limit 8), .long (t_deeds_desks_tree 8)])), ((q_t_deeds_desks 8), .inl (cI, 8, .inl (a_t_deeds_desks 8))), (h_t_desk_powers, .inl (cI, 8, .inl a_t_desk_powers))] H := hP
  have hD : va_D A [(h_t, .inr (7, [.ref h_t_desk, .ref h_t_imageDesk, .ref h_t_deeds, .ref h_t_numbers, .ref h_t_tape, .ref h_t_reader, .ref h_t_speller, .ref h_t_holders, .int t_imageKept])), (h_t_desk, .inr (1, [.int t_desk_genus, .int t_desk_size, .ref h_t_desk_powers, .int t_desk_limit, .long x5])), (h_t_deeds, .inr (0, [.ref h_t_deeds_desks, .int t_deeds_now, .int t_deeds_last])), (h_t_deeds_desks, .inl (cD, 9, .inr (.inr (.inr (.inr (fun i => some (d_t_deeds_desks i))))))), ((d_t_deeds_desks 0), .inr (1, [.int (t_deeds_desks_genus 0), .int (t_deeds_desks_size 0), .ref (q_t_deeds_desks 0), .int (t_deeds_desks_limit 0), .long (t_deeds_desks_tree 0)])), ((q_t_deeds_desks 0), .inl (cI, 8, .inl (a_t_deeds_desks 0))), ((d_t_deeds_desks 1), .inr (1, [.int (t_deeds_desks_genus 1), .int (t_deeds_desks_size 1), .ref (q_t_deeds_desks 1), .int (t_deeds_desks_limit 1), .long (t_deeds_desks_tree 1)])), ((q_t_deeds_desks 1), .inl (cI, 8, .inl (a_t_deeds_desks 1))), ((d_t_deeds_desks 2), .inr (1, [.int (t_deeds_desks_genus 2), .int (t_deeds_desks_size 2), .ref (q_t_deeds_desks 2), .int (t_deeds_desks_limit 2), .long (t_deeds_desks_tree 2)])), ((q_t_deeds_desks 2), .inl (cI, 8, .inl (a_t_deeds_desks 2))), ((d_t_deeds_desks 3), .inr (1, [.int (t_deeds_desks_genus 3), .int (t_deeds_desks_size 3), .ref (q_t_deeds_desks 3), .int (t_deeds_desks_limit 3), .long (t_deeds_desks_tree 3)])), ((q_t_deeds_desks 3), .inl (cI, 8, .inl (a_t_deeds_desks 3))), ((d_t_deeds_desks 4), .inr (1, [.int (t_deeds_desks_genus 4), .int (t_deeds_desks_size 4), .ref (q_t_deeds_desks 4), .int (t_deeds_desks_limit 4), .long (t_deeds_desks_tree 4)])), ((q_t_deeds_desks 4), .inl (cI, 8, .inl (a_t_deeds_desks 4))), ((d_t_deeds_desks 5), .inr (1, [.int (t_deeds_desks_genus 5), .int (t_deeds_desks_size 5), .ref (q_t_deeds_desks 5), .int (t_deeds_desks_limit 5), .long (t_deeds_desks_tree 5)])), ((q_t_deeds_desks 5), .inl (cI, 8, .inl (a_t_deeds_desks 5))), ((d_t_deeds_desks 6), .inr (1, [.int (t_deeds_desks_genus 6), .int (t_deeds_desks_size 6), .ref (q_t_deeds_desks 6), .int (t_deeds_desks_limit 6), .long (t_deeds_desks_tree 6)])), ((q_t_deeds_desks 6), .inl (cI, 8, .inl (a_t_deeds_desks 6))), ((d_t_deeds_desks 7), .inr (1, [.int (t_deeds_desks_genus 7), .int (t_deeds_desks_size 7), .ref (q_t_deeds_desks 7), .int (t_deeds_desks_limit 7), .long (t_deeds_desks_tree 7)])), ((q_t_deeds_desks 7), .inl (cI, 8, .inl (a_t_deeds_desks 7))), ((d_t_deeds_desks 8), .inr (1, [.int (t_deeds_desks_genus 8), .int (t_deeds_desks_size 8), .ref (q_t_deeds_desks 8), .int (t_deeds_desks_limit 8), .long (t_deeds_desks_tree 8)])), ((q_t_deeds_desks 8), .inl (cI, 8, .inl (a_t_deeds_desks 8))), (h_t_desk_powers, .inl (cI, 8, .inl a_t_desk_powers))] := hD
  refine lv_aload_n hx hb dX8_join_51 rfl (lv_at hl 0 rfl) ?_
  refine va_get (D := G) (ci := 7) (v := .ref h_t_deeds) (C := RX8) (T := TX8) (N := 9) hx hb hts hinX8 hown hK hP 0 rfl rfl 2 (by decide) (hta _ mw_362) (fun _ h9 => h9) rfl dX8_join_52 ?_
  refine lv_aload_n hx hb dX8_join_55 rfl (lv_at hl 0 rfl) ?_
  refine va_get (D := G) (ci := 7) (v := .ref h_t_desk) (C := RX8) (T := TX8) (N := 9) hx hb hts hinX8 hown hK hP 0 rfl rfl 0 (by decide) (hta _ mw_358) (fun _ h9 => h9) rfl dX8_join_56 ?_
  obtain ⟨x6, hx6, h⟩ := bd_e h
  try dsimp only at h
  refine k_VvPM (n := 1) (As := [.ref h_t_desk]) (rest := []) hx hb hml hown hts (c_X0_settle l G cI cJ cD cH H.size h_t_deeds h_t_desk h_t_deeds_desks h_t_desk_powers d_t_deeds_desks q_t_deeds_desks a_t_deeds_desks t_deeds_desks_genus t_deeds_desks_size t_deeds_desks_limit t_deeds_desks_tree t_deeds_now t_deeds_last t_desk_genus t_desk_size t_desk_limit x5 a_t_desk_powers (x6.1) (x6.2.1) (x6.2.2.1) (x6.2.2.2.1) (x6.2.2.2.2.1) (x6.2.2.2.2.2.1) (x6.2.2.2.2.2.2.1) (x6.2.2.2.2.2.2.2.1) (x6.2.2.2.2.2.2.2.2) hx6) gX8_join_X0_settle rfl rfl rfl (by decide +kernel) ⟨by first | exact Nat.le_of_ble_eq_true rfl | (simp only [headSpec]; omega), by first | exact Nat.le_of_ble_eq_true rfl | (simp only [headSpec]; omega)⟩ hK hP hD hS hA [2, 1, 3, 4, 5, 6, 7, 8, 9, 10, 11, 12, 13, 14, 15, 16, 17, 18, 19, 20, 21, 22] (by decide) rfl rfl (ci := 0) rfl rfl rfl rfl rfl hl.1 (Nat.le_of_ble_eq_true rfl) dX8_join_59 ⟨Nat.zero_le _, Nat.zero_le _⟩ [(h_t, .inr (7, [.ref h_t_desk, .ref h_t_imageDesk, .ref h_t_deeds, .ref h_t_numbers, .ref h_t_tape, .ref h_t_reader, .ref h_t_speller, .ref h_t_holders, .int t_imageKept])), (h_t_desk, .inr (1, [.int t_desk_genus, .int t_desk_size, .ref h_t_desk_powers, .int t_desk_limit, .long x5])), (h_t_deeds, .inr (0, [.ref h_t_deeds_desks, .int (x6.1), .int (x6.2.1)])), (h_t_deeds_desks, .inl (cD, 9, .inr (.inr (.inr (.inr (fun i => some ((x6.2.2.2.1) i))))))), (((x6.2.2.2.1) 0), .inr (1, [.int ((x6.2.2.2.2.1) 0), .int ((x6.2.2.2.2.2.2.2.1) 0), .ref ((x6.2.2.2.2.2.2.1) 0), .int ((x6.2.2.2.2.2.1) 0), .long ((x6.2.2.2.2.2.2.2.2) 0)])), (((x6.2.2.2.2.2.2.1) 0), .inl (cI, 8, .inl ((x6.2.2.1) 0))), (((x6.2.2.2.1) 1), .inr (1, [.int ((x6.2.2.2.2.1) 1), .int ((x6.2.2.2.2.2.2.2.1) 1), .ref ((x6.2.2.2.2.2.2.1) 1), .int ((x6.2.2.2.2.2.1) 1), .long ((x6.2.2.2.2.2.2.2.2) 1)])), (((x6.2.2.2.2.2.2.1) 1), .inl (cI, 8, .inl ((x6.2.2.1) 1))), (((x6.2.2.2.1) 2), .inr (1, [.int ((x6.2.2.2.2.1) 2), .int ((x6.2.2.2.2.2.2.2.1) 2), .ref ((x6.2.2.2.2.2.2.1) 2), .int ((x6.2.2.2.2.2.1) 2), .long ((x6.2.2.2.2.2.2.2.2) 2)])), (((x6.2.2.2.2.2.2.1) 2), .inl (cI, 8, .inl ((x6.2.2.1) 2))), (((x6.2.2.2.1) 3), .inr (1, [.int ((x6.2.2.2.2.1) 3), .int ((x6.2.2.2.2.2.2.2.1) 3), .ref ((x6.2.2.2.2.2.2.1) 3), .int ((x6.2.2.2.2.2.1) 3), .long ((x6.2.2.2.2.2.2.2.2) 3)])), (((x6.2.2.2.2.2.2.1) 3), .inl (cI, 8, .inl ((x6.2.2.1) 3))), (((x6.2.2.2.1) 4), .inr (1, [.int ((x6.2.2.2.2.1) 4), .int ((x6.2.2.2.2.2.2.2.1) 4), .ref ((x6.2.2.2.2.2.2.1) 4), .int ((x6.2.2.2.2.2.1) 4), .long ((x6.2.2.2.2.2.2.2.2) 4)])), (((x6.2.2.2.2.2.2.1) 4), .inl (cI, 8, .inl ((x6.2.2.1) 4))), (((x6.2.2.2.1) 5), .inr (1, [.int ((x6.2.2.2.2.1) 5), .int ((x6.2.2.2.2.2.2.2.1) 5), .ref ((x6.2.2.2.2.2.2.1) 5), .int ((x6.2.2.2.2.2.1) 5), .long ((x6.2.2.2.2.2.2.2.2) 5)])), (((x6.2.2.2.2.2.2.1) 5), .inl (cI, 8, .inl ((x6.2.2.1) 5))), (((x6.2.2.2.1) 6), .inr (1, [.int ((x6.2.2.2.2.1) 6), .int ((x6.2.2.2.2.2.2.2.1) 6), .ref ((x6.2.2.2.2.2.2.1) 6), .int ((x6.2.2.2.2.2.1) 6), .long ((x6.2.2.2.2.2.2.2.2) 6)])), (((x6.2.2.2.2.2.2.1) 6), .inl (cI, 8, .inl ((x6.2.2.1) 6))), (((x6.2.2.2.1) 7), .inr (1, [.int ((x6.2.2.2.2.1) 7), .int ((x6.2.2.2.2.2.2.2.1) 7), .ref ((x6.2.2.2.2.2.2.1) 7), .int ((x6.2.2.2.2.2.1) 7), .long ((x6.2.2.2.2.2.2.2.2) 7)])), (((x6.2.2.2.2.2.2.1) 7), .inl (cI, 8, .inl ((x6.2.2.1) 7))), (((x6.2.2.2.1) 8), .inr (1, [.int ((x6.2.2.2.2.1) 8), .int ((x6.2.2.2.2.2.2.2.1) 8), .ref ((x6.2.2.2.2.2.2.1) 8), .int ((x6.2.2.2.2.2.1) 8), .long ((x6.2.2.2.2.2.2.2.2) 8)])), (((x6.2.2.2.2.2.2.1) 8), .inl (cI, 8, .inl ((x6.2.2.1) 8))), (h_t_desk_powers, .inl (cI, 8, .inl a_t_desk_powers))] [0, 2, 1, 3, 4, 5, 6, 7, 8, 9, 10, 11, 12, 13, 14, 15, 16, 17, 18, 19, 20, 21, 22] 22 (by decide +kernel) rfl rfl (fun hp6 H locs hP hD hS => ?_)
  refine lv_aload_n hx hb dX8_join_62 rfl (lv_at hl 0 rfl) ?_
  refine va_get (D := G) (ci := 7) (v := .ref h_t_desk) (C := RX8) (T := TX8) (N := 9) hx hb hts hinX8 hown hK hP 0 rfl rfl 0 (by decide) (hta _ mw_358) (fun _ h9 => h9) rfl dX8_join_63 ?_
  refine va_get (D := G) (ci := 1) (v := .long x5) (C := RX1) (T := TX1) (N := 5) hx hb hts hinX1 hown hK hP 1 rfl rfl 4 (by decide) (hta _ mw_480) (fun _ h9 => h9) rfl dX8_join_66 ?_
  obtain ⟨x7, hx7, h⟩ := bd_e h
  try dsimp only at h
  refine k_SiU (n := 1) (As := [.long x5]) (rest := []) hx hb hml hown hts (c_X6_sizeOf l G cI cJ cD cH H.size x5 x7 hx7) gX8_join_X6_sizeOf rfl rfl rfl (by decide +kernel) ⟨by first | exact Nat.le_of_ble_eq_true rfl | (simp only [headSpec]; omega), by first | exact Nat.le_of_ble_eq_true rfl | (simp only [headSpec]; omega)⟩ hK hP hD hS hA [] (by decide) rfl rfl rfl hl.1 (Nat.le_of_ble_eq_true rfl) dX8_join_69 ⟨Nat.zero_le _, Nat.zero_le _⟩ (fun hp7 H locs hP hS => ?_)
  have h9 := Option.some.inj h
  have e9 : x7 = r0 := congrArg (fun z9 => z9.1) h9
  rw [← e9]
  have e9 : x5 = w0 := congrArg (fun z9 => z9.2.1) h9
  rw [← e9]
  have e9 : (x6.1) = w1 := congrArg (fun z9 => z9.2.2.1) h9
  rw [← e9]
  have e9 : (x6.2.1) = w2 := congrArg (fun z9 => z9.2.2.2.1) h9
  rw [← e9]
  have e9 : (x6.2.2.1) = w3 := congrArg (fun z9 => z9.2.2.2.2.1) h9
  rw [← e9]
  have e9 : (x6.2.2.2.1) = w4 := congrArg (fun z9 => z9.2.2.2.2.2.1) h9
  rw [← e9]
  have e9 : (x6.2.2.2.2.1) = w5 := congrArg (fun z9 => z9.2.2.2.2.2.2.1) h9
  rw [← e9]
  have e9 : (x6.2.2.2.2.2.1) = w6 := congrArg (fun z9 => z9.2.2.2.2.2.2.2.1) h9
  rw [← e9]
  have e9 : (x6.2.2.2.2.2.2.1) = w7 := congrArg (fun z9 => z9.2.2.2.2.2.2.2.2.1) h9
  rw [← e9]
  have e9 : (x6.2.2.2.2.2.2.2.1) = w8 := congrArg (fun z9 => z9.2.2.2.2.2.2.2.2.2.1) h9
  rw [← e9]
  have e9 : (x6.2.2.2.2.2.2.2.2) = w9 := congrArg (fun z9 => z9.2.2.2.2.2.2.2.2.2.2) h9
  rw [← e9]
  exact k_iretP hx hb hr hlocks hD hP hS rfl dX8_join_72

/-! X8_splitAt -/
set_option maxHeartbeats 4000000 in
set_option maxRecDepth 100000 in
theorem c_X8_splitAt (l : Launch) (G : va_G) (cI cJ cD cH : ClassId) (sz : Nat) (h_t : Nat) (h_t_desk : Nat) (h_t_imageDesk : Nat) (h_t_deeds : Nat) (h_t_numbers : Nat) (h_t_tape : Nat) (h_t_reader : Nat) (h_t_speller : Nat) (h_t_holders : Nat) (h_t_desk_powers : Nat) (t_imageKept : Int32) (t_desk_genus : Int32) (t_desk_size : Int32) (t_desk_limit : Int32) (t_desk_tree : Int64) (p0 : Int32) (r0 : Int32) (hF : F_X8_splitAt t_desk_tree p0 = some r0) : Met l yX8_splitAt wsX8_splitAt ({ frames := 2, cells := 0, slots := 0, locals := 46 }) (k_pre G (k_T cI cJ cD cH) [(h_t, .inr (7, [.ref h_t_desk, .ref h_t_imageDesk, .ref h_t_deeds, .ref h_t_numbers, .ref h_t_tape, .ref h_t_reader, .ref h_t_speller, .ref h_t_holders, .int t_imageKept])), (h_t_desk, .inr (1, [.int t_desk_genus, .int t_desk_size, .ref h_t_desk_powers, .int t_desk_limit, .long t_desk_tree]))] sz [.ref h_t, .int p0]) (va_Qi (fun r (_ : Unit) => r = r0 ∧ True) (fun _ t => va_P G vwCl [(h_t, .inr (7, [.ref h_t_desk, .ref h_t_imageDesk, .ref h_t_deeds, .ref h_t_numbers, .ref h_t_tape, .ref h_t_reader, .ref h_t_speller, .ref h_t_holders, .int t_imageKept])), (h_t_desk, .inr (1, [.int t_desk_genus, .int t_desk_size, .ref h_t_desk_powers, .int t_desk_limit, .long t_desk_tree]))] t.heap) (va_A [(h_t, .inr (7, [.ref h_t_desk, .ref h_t_imageDesk, .ref h_t_deeds, .ref h_t_numbers, .ref h_t_tape, .ref h_t_reader, .ref h_t_speller, .ref h_t_holders, .int t_imageKept])), (h_t_desk, .inr (1, [.int t_desk_genus, .int t_desk_size, .ref h_t_desk_powers, .int t_desk_limit, .long t_desk_tree]))] sz)) 0 0 (va_A [(h_t, .inr (7, [.ref h_t_desk, .ref h_t_imageDesk, .ref h_t_deeds, .ref h_t_numbers, .ref h_t_tape, .ref h_t_reader, .ref h_t_speller, .ref h_t_holders, .int t_imageKept])), (h_t_desk, .inr (1, [.int t_desk_genus, .int t_desk_size, .ref h_t_desk_powers, .int t_desk_limit, .long t_desk_tree]))] sz) := by
  refine Met.ofW (cc := cX8_splitAt) (maxL := 3) (ret := (some .int)) (by decide) rfl ?_
  intro p e s m args below meth c s₁ B hml hv
  obtain ⟨rfl, hsz, hP, hK, hD0⟩ := hv
  have hx := B.exec
  have hb := B.bytes
  have hr := B.returns
  have hts := atoms_spec (ws := wsX8_splitAt) B.pre
  have hta : ∀ w ∈ wA, w.before ([.ref h_t, .int p0] : List Value).toArray s = true := hta_of hts
  have hown : s.vm.findClass RX8 = some m.cls := findClass_of_methodNamed B.named
  have hlocks := B.notSynchronized
  subst hsz
  have hD := hD0.self (sz := s.heap.size)
  generalize hAe : va_A [(h_t, .inr (7, [.ref h_t_desk, .ref h_t_imageDesk, .ref h_t_deeds, .ref h_t_numbers, .ref h_t_tape, .ref h_t_reader, .ref h_t_speller, .ref h_t_holders, .int t_imageKept])), (h_t_desk, .inr (1, [.int t_desk_genus, .int t_desk_size, .ref h_t_desk_powers, .int t_desk_limit, .long t_desk_tree]))] s.heap.size = A at hD ⊢
  have hA : ∀ q : Nat, s.heap.size ≤ q → A q := fun q h => by rw [← hAe]; exact Or.inr h
  have hS : va_S A s.heap s.heap [] := va_S.rf
  have hl := lv_entry ([.ref h_t, .int p0]) (n := 3) (Nat.le_of_ble_eq_true rfl)
  rw [lg_entry_eq]
  generalize (lg_sl ([.ref h_t, .int p0]) ++ List.replicate (3 - (lg_sl ([.ref h_t, .int p0])).length) Slot.unset).toArray = ls at hl ⊢
  have hl : lv_has ls 3 [(0, .ref h_t), (1, .int p0)] := hl
  have hinX1 : ∀ w ∈ wsX10, w ∈ wsX8_splitAt := hin_of in_X1
  have hinX8 : ∀ w ∈ wsX80, w ∈ wsX8_splitAt := hin_of in_X8
  have h := hF
  unfold F_X8_splitAt at h
  refine lv_iload_n hx hb dX8_splitAt_0 rfl (lv_at hl 1 rfl) ?_
  refine lv_if_ge (tgt := 6) hx hb dX8_splitAt_1 (by decide) (fun c1 => ?_) (fun c1 => ?_)
  rotate_left
  · have h := it_n h c1
    refine lv_iconst (v := (-1 : Int32)) hx hb dX8_splitAt_4 (by decide) ?_
    have h9 := Option.some.inj h
    have e9 : (-1 : Int32) = r0 := congrArg (fun z9 => z9) h9
    rw [← e9]
    exact k_iret hx hb hr hlocks hP hS rfl dX8_splitAt_5
  have h := it_p h c1
  refine lv_aload_n hx hb dX8_splitAt_6 rfl (lv_at hl 0 rfl) ?_
  refine va_get (D := G) (ci := 7) (v := .ref h_t_desk) (C := RX8) (T := TX8) (N := 9) hx hb hts hinX8 hown hK hP 0 rfl rfl 0 (by decide) (hta _ mw_358) (fun _ h9 => h9) rfl dX8_splitAt_7 ?_
  refine va_get (D := G) (ci := 1) (v := .long t_desk_tree) (C := RX1) (T := TX1) (N := 5) hx hb hts hinX1 hown hK hP 1 rfl rfl 4 (by decide) (hta _ mw_480) (fun _ h9 => h9) rfl dX8_splitAt_10 ?_
  refine lv_iload_n hx hb dX8_splitAt_13 rfl (lv_at hl 1 rfl) ?_
  obtain ⟨x2, hx2, h⟩ := bd_e h
  try dsimp only at h
  refine k_SiU (n := 2) (As := [.long t_desk_tree, .int p0]) (rest := []) hx hb hml hown hts (c_X6_nth l G cI cJ cD cH s.heap.size t_desk_tree p0 x2 hx2) gX8_splitAt_X6_nth rfl rfl rfl (by decide +kernel) ⟨by first | exact Nat.le_of_ble_eq_true rfl | (simp only [headSpec]; omega), by first | exact Nat.le_of_ble_eq_true rfl | (simp only [headSpec]; omega)⟩ hK hP hD hS hA [] (by decide) rfl rfl rfl hl.1 (Nat.le_of_ble_eq_true rfl) dX8_splitAt_14 ⟨Nat.zero_le _, Nat.zero_le _⟩ (fun hp2 H locs hP hS => ?_)
  refine lv_istore_n (lv' := [(2, .int x2), (0, .ref h_t), (1, .int p0)]) hx hb dX8_splitAt_17 rfl hl (by decide) rfl (fun ls hl => ?_)
  refine lv_iload_n hx hb dX8_splitAt_18 rfl (lv_at hl 0 rfl) ?_
  refine lv_iconst (v := (-1 : Int32)) hx hb dX8_splitAt_19 (by decide) ?_
  refine lv_icmp_ne (tgt := 28) hx hb dX8_splitAt_20 (by decide) (fun c3 => ?_) (fun c3 => ?_)
  · have h := it_n h c3
    refine lv_iload_n hx hb dX8_splitAt_28 rfl (lv_at hl 0 rfl) ?_
    have h9 := Option.some.inj h
    have e9 : x2 = r0 := congrArg (fun z9 => z9) h9
    rw [← e9]
    exact k_iret hx hb hr hlocks hP hS rfl dX8_splitAt_29
  have h := it_p h c3
  refine lv_bipush (v := (-2 : Int32)) hx hb dX8_splitAt_23 (by decide) ?_
  refine lv_goto (tgt := 29) hx hb dX8_splitAt_25 (by decide) ?_
  have h9 := Option.some.inj h
  have e9 : (-2 : Int32) = r0 := congrArg (fun z9 => z9) h9
  rw [← e9]
  exact k_iret hx hb hr hlocks hP hS rfl dX8_splitAt_29

/-! X8_may -/
set_option maxHeartbeats 4000000 in
set_option maxRecDepth 100000 in
theorem c_X8_may (l : Launch) (G : va_G) (cI cJ cD cH : ClassId) (sz : Nat) (h_t : Nat) (h_t_desk : Nat) (h_t_imageDesk : Nat) (h_t_deeds : Nat) (h_t_numbers : Nat) (h_t_tape : Nat) (h_t_reader : Nat) (h_t_speller : Nat) (h_t_holders : Nat) (h_t_desk_powers : Nat) (t_imageKept : Int32) (t_desk_genus : Int32) (t_desk_size : Int32) (t_desk_limit : Int32) (t_desk_tree : Int64) (p0 : Int32) (r0 : Int32) (hF : F_X8_may t_desk_limit t_desk_tree p0 = some r0) : Met l yX8_may wsX8_may ({ frames := 3, cells := 0, slots := 0, locals := 71 }) (k_pre G (k_T cI cJ cD cH) [(h_t, .inr (7, [.ref h_t_desk, .ref h_t_imageDesk, .ref h_t_deeds, .ref h_t_numbers, .ref h_t_tape, .ref h_t_reader, .ref h_t_speller, .ref h_t_holders, .int t_imageKept])), (h_t_desk, .inr (1, [.int t_desk_genus, .int t_desk_size, .ref h_t_desk_powers, .int t_desk_limit, .long t_desk_tree]))] sz [.ref h_t, .int p0]) (va_Qi (fun r (_ : Unit) => r = r0 ∧ True) (fun _ t => va_P G vwCl [(h_t, .inr (7, [.ref h_t_desk, .ref h_t_imageDesk, .ref h_t_deeds, .ref h_t_numbers, .ref h_t_tape, .ref h_t_reader, .ref h_t_speller, .ref h_t_holders, .int t_imageKept])), (h_t_desk, .inr (1, [.int t_desk_genus, .int t_desk_size, .ref h_t_desk_powers, .int t_desk_limit, .long t_desk_tree]))] t.heap) (va_A [(h_t, .inr (7, [.ref h_t_desk, .ref h_t_imageDesk, .ref h_t_deeds, .ref h_t_numbers, .ref h_t_tape, .ref h_t_reader, .ref h_t_speller, .ref h_t_holders, .int t_imageKept])), (h_t_desk, .inr (1, [.int t_desk_genus, .int t_desk_size, .ref h_t_desk_powers, .int t_desk_limit, .long t_desk_tree]))] sz)) 0 0 (va_A [(h_t, .inr (7, [.ref h_t_desk, .ref h_t_imageDesk, .ref h_t_deeds, .ref h_t_numbers, .ref h_t_tape, .ref h_t_reader, .ref h_t_speller, .ref h_t_holders, .int t_imageKept])), (h_t_desk, .inr (1, [.int t_desk_genus, .int t_desk_size, .ref h_t_desk_powers, .int t_desk_limit, .long t_desk_tree]))] sz) := by
  refine Met.ofW (cc := cX8_may) (maxL := 2) (ret := (some .int)) (by decide) rfl ?_
  intro p e s m args below meth c s₁ B hml hv
  obtain ⟨rfl, hsz, hP, hK, hD0⟩ := hv
  have hx := B.exec
  have hb := B.bytes
  have hr := B.returns
  have hts := atoms_spec (ws := wsX8_may) B.pre
  have hta : ∀ w ∈ wA, w.before ([.ref h_t, .int p0] : List Value).toArray s = true := hta_of hts
  have hown : s.vm.findClass RX8 = some m.cls := findClass_of_methodNamed B.named
  have hlocks := B.notSynchronized
  subst hsz
  have hD := hD0.self (sz := s.heap.size)
  generalize hAe : va_A [(h_t, .inr (7, [.ref h_t_desk, .ref h_t_imageDesk, .ref h_t_deeds, .ref h_t_numbers, .ref h_t_tape, .ref h_t_reader, .ref h_t_speller, .ref h_t_holders, .int t_imageKept])), (h_t_desk, .inr (1, [.int t_desk_genus, .int t_desk_size, .ref h_t_desk_powers, .int t_desk_limit, .long t_desk_tree]))] s.heap.size = A at hD ⊢
  have hA : ∀ q : Nat, s.heap.size ≤ q → A q := fun q h => by rw [← hAe]; exact Or.inr h
  have hS : va_S A s.heap s.heap [] := va_S.rf
  have hl := lv_entry ([.ref h_t, .int p0]) (n := 2) (Nat.le_of_ble_eq_true rfl)
  rw [lg_entry_eq]
  generalize (lg_sl ([.ref h_t, .int p0]) ++ List.replicate (2 - (lg_sl ([.ref h_t, .int p0])).length) Slot.unset).toArray = ls at hl ⊢
  have hl : lv_has ls 2 [(0, .ref h_t), (1, .int p0)] := hl
  have hinX1 : ∀ w ∈ wsX10, w ∈ wsX8_may := hin_of in_X1
  have hinX8 : ∀ w ∈ wsX80, w ∈ wsX8_may := hin_of in_X8
  have h := hF
  unfold F_X8_may at h
  refine lv_iload_n hx hb dX8_may_0 rfl (lv_at hl 1 rfl) ?_
  refine lv_aload_n hx hb dX8_may_1 rfl (lv_at hl 0 rfl) ?_
  refine va_get (D := G) (ci := 7) (v := .ref h_t_desk) (C := RX8) (T := TX8) (N := 9) hx hb hts hinX8 hown hK hP 0 rfl rfl 0 (by decide) (hta _ mw_358) (fun _ h9 => h9) rfl dX8_may_2 ?_
  refine va_get (D := G) (ci := 1) (v := .int t_desk_limit) (C := RX1) (T := TX1) (N := 5) hx hb hts hinX1 hown hK hP 1 rfl rfl 3 (by decide) (hta _ mw_479) (fun _ h9 => h9) rfl dX8_may_5 ?_
  obtain ⟨x1, hx1, h⟩ := bd_e h
  try dsimp only at h
  refine k_SiU (n := 2) (As := [.int p0, .int t_desk_limit]) (rest := []) hx hb hml hown hts (c_X6_isSplit l G cI cJ cD cH s.heap.size p0 t_desk_limit x1 hx1) gX8_may_X6_isSplit rfl rfl rfl (by decide +kernel) ⟨by first | exact Nat.le_of_ble_eq_true rfl | (simp only [headSpec]; omega), by first | exact Nat.le_of_ble_eq_true rfl | (simp only [headSpec]; omega)⟩ hK hP hD hS hA [] (by decide) rfl rfl rfl hl.1 (Nat.le_of_ble_eq_true rfl) dX8_may_8 ⟨Nat.zero_le _, Nat.zero_le _⟩ (fun hp1 H locs hP hS => ?_)
  refine lv_if_ne (tgt := 16) hx hb dX8_may_11 (by decide) (fun c2 => ?_) (fun c2 => ?_)
  rotate_left
  · have h := it_p h c2
    refine lv_iconst (v := (-1 : Int32)) hx hb dX8_may_14 (by decide) ?_
    have h9 := Option.some.inj h
    have e9 : (-1 : Int32) = r0 := congrArg (fun z9 => z9) h9
    rw [← e9]
    exact k_iret hx hb hr hlocks hP hS rfl dX8_may_15
  have h := it_n h c2
  refine lv_aload_n hx hb dX8_may_16 rfl (lv_at hl 0 rfl) ?_
  refine va_get (D := G) (ci := 7) (v := .ref h_t_desk) (C := RX8) (T := TX8) (N := 9) hx hb hts hinX8 hown hK hP 0 rfl rfl 0 (by decide) (hta _ mw_358) (fun _ h9 => h9) rfl dX8_may_17 ?_
  refine va_get (D := G) (ci := 1) (v := .long t_desk_tree) (C := RX1) (T := TX1) (N := 5) hx hb hts hinX1 hown hK hP 1 rfl rfl 4 (by decide) (hta _ mw_480) (fun _ h9 => h9) rfl dX8_may_20 ?_
  refine lv_iload_n hx hb dX8_may_23 rfl (lv_at hl 1 rfl) ?_
  obtain ⟨x3, hx3, h⟩ := bd_e h
  try dsimp only at h
  refine k_SiU (n := 2) (As := [.long t_desk_tree, .int p0]) (rest := []) hx hb hml hown hts (c_X6_fits l G cI cJ cD cH H.size t_desk_tree p0 x3 hx3) gX8_may_X6_fits rfl rfl rfl (by decide +kernel) ⟨by first | exact Nat.le_of_ble_eq_true rfl | (simp only [headSpec]; omega), by first | exact Nat.le_of_ble_eq_true rfl | (simp only [headSpec]; omega)⟩ hK hP hD hS hA [] (by decide) rfl rfl rfl hl.1 (Nat.le_of_ble_eq_true rfl) dX8_may_24 ⟨Nat.zero_le _, Nat.zero_le _⟩ (fun hp3 H locs hP hS => ?_)
  refine lv_if_eq (tgt := 34) hx hb dX8_may_27 (by decide) (fun c4 => ?_) (fun c4 => ?_)
  · have h := it_p h c4
    refine lv_iconst (v := (0 : Int32)) hx hb dX8_may_34 (by decide) ?_
    have h9 := Option.some.inj h
    have e9 : (0 : Int32) = r0 := congrArg (fun z9 => z9) h9
    rw [← e9]
    exact k_iret hx hb hr hlocks hP hS rfl dX8_may_35
  have h := it_n h c4
  refine lv_iconst (v := (1 : Int32)) hx hb dX8_may_30 (by decide) ?_
  refine lv_goto (tgt := 35) hx hb dX8_may_31 (by decide) ?_
  have h9 := Option.some.inj h
  have e9 : (1 : Int32) = r0 := congrArg (fun z9 => z9) h9
  rw [← e9]
  exact k_iret hx hb hr hlocks hP hS rfl dX8_may_35

/-! X8_valence -/
set_option maxHeartbeats 4000000 in
set_option maxRecDepth 100000 in
theorem tJ_X8_valence_41 {l : Launch} {G : va_G} {cI cJ cD cH : ClassId} {h_t : Nat} {h_t_desk : Nat} {h_t_imageDesk : Nat} {h_t_deeds : Nat} {h_t_numbers : Nat} {h_t_tape : Nat} {h_t_reader : Nat} {h_t_speller : Nat} {h_t_holders : Nat} {h_t_desk_powers : Nat} {t_imageKept : Int32} {t_desk_genus : Int32} {t_desk_size : Int32} {t_desk_limit : Int32} {t_desk_tree : Int64} {p0 : Int32} {r0 : Int32} {p : Program} {e : Env} {s : State} {m : MethodId} {below : List Frame} {meth : Method} {c : Code} {A : Nat → Prop} (hx : p.tables.exec = Jvm.exec) (hb : c.code = cX8_valence) (hr : meth.sig.returnType = (some .int)) (hml : c.maxLocals = 4) (hts : ∀ w ∈ wsX8_valence, w.before ([.ref h_t, .int p0] : List Value).toArray s = true) (hown : s.vm.findClass RX8 = some m.cls) (hlocks : meth.locks = false) (hK : va_K G vwCl (k_T cI cJ cD cH) s) (hA : ∀ q : Nat, s.heap.size ≤ q → A q) : ∀ (H : Heap) (locs : List Loc) (ls : Array Slot), va_P G vwCl [(h_t, .inr (7, [.ref h_t_desk, .ref h_t_imageDesk, .ref h_t_deeds, .ref h_t_numbers, .ref h_t_tape, .ref h_t_reader, .ref h_t_speller, .ref h_t_holders, .int t_imageKept])), (h_t_desk, .inr (1, [.int t_desk_genus, .int t_desk_size, .ref h_t_desk_powers, .int t_desk_limit, .long t_desk_tree]))] H → va_D A [(h_t, .inr (7, [.ref h_t_desk, .ref h_t_imageDesk, .ref h_t_deeds, .ref h_t_numbers, .ref h_t_tape, .ref h_t_reader, .ref h_t_speller, .ref h_t_holders, .int t_imageKept])), (h_t_desk, .inr (1, [.int t_desk_genus, .int t_desk_size, .ref h_t_desk_powers, .int t_desk_limit, .long t_desk_tree]))] → va_S A s.heap H locs → lv_has ls 4 [(0, .ref h_t), (1, .int p0)] → J_X8_valence_41 t_desk_limit t_desk_tree p0 = some r0 → W p l e (headSpec wsX8_valence ({ frames := 4, cells := 0, slots := 0, locals := 100 })).room s m ([.ref h_t, .int p0] : List Value).toArray below meth c H locs 0 0 (MQ below (va_Qi (fun r (_ : Unit) => r = r0 ∧ True) (fun _ t => va_P G vwCl [(h_t, .inr (7, [.ref h_t_desk, .ref h_t_imageDesk, .ref h_t_deeds, .ref h_t_numbers, .ref h_t_tape, .ref h_t_reader, .ref h_t_speller, .ref h_t_holders, .int t_imageKept])), (h_t_desk, .inr (1, [.int t_desk_genus, .int t_desk_size, .ref h_t_desk_powers, .int t_desk_limit, .long t_desk_tree]))] t.heap) A) ([.ref h_t, .int p0] : List Value).toArray s 0 0 A) (F0 m 41 ls []) := by
  have hta : ∀ w ∈ wA, w.before ([.ref h_t, .int p0] : List Value).toArray s = true := hta_of hts
  have hinX1 : ∀ w ∈ wsX10, w ∈ wsX8_valence := hin_of in_X1
  have hinX8 : ∀ w ∈ wsX80, w ∈ wsX8_valence := hin_of in_X8
  intro  H locs ls hP hD hS hl h
  unfold J_X8_valence_41 at h
  refine lv_iload_n hx hb dX8_valence_41 rfl (lv_at hl 1 rfl) ?_
  refine lv_aload_n hx hb dX8_valence_42 rfl (lv_at hl 0 rfl) ?_
  refine va_get (D := G) (ci := 7) (v := .ref h_t_desk) (C := RX8) (T := TX8) (N := 9) hx hb hts hinX8 hown hK hP 0 rfl rfl 0 (by decide) (hta _ mw_358) (fun _ h9 => h9) rfl dX8_valence_43 ?_
  refine va_get (D := G) (ci := 1) (v := .int t_desk_limit) (C := RX1) (T := TX1) (N := 5) hx hb hts hinX1 hown hK hP 1 rfl rfl 3 (by decide) (hta _ mw_479) (fun _ h9 => h9) rfl dX8_valence_46 ?_
  obtain ⟨x1, hx1, h⟩ := bd_e h
  try dsimp only at h
  refine k_SiU (n := 2) (As := [.int p0, .int t_desk_limit]) (rest := []) hx hb hml hown hts (c_X6_under l G cI cJ cD cH H.size p0 t_desk_limit x1 hx1) gX8_valence_X6_under rfl rfl rfl (by decide +kernel) ⟨by first | exact Nat.le_of_ble_eq_true rfl | (simp only [headSpec]; omega), by first | exact Nat.le_of_ble_eq_true rfl | (simp only [headSpec]; omega)⟩ hK hP hD hS hA [] (by decide) rfl rfl rfl hl.1 (Nat.le_of_ble_eq_true rfl) dX8_valence_49 ⟨Nat.zero_le _, Nat.zero_le _⟩ (fun hp1 H locs hP hS => ?_)
  refine lv_istore_n (lv' := [(2, .int x1), (0, .ref h_t), (1, .int p0)]) hx hb dX8_valence_52 rfl hl (by decide) rfl (fun ls hl => ?_)
  refine lv_aload_n hx hb dX8_valence_53 rfl (lv_at hl 1 rfl) ?_
  refine va_get (D := G) (ci := 7) (v := .ref h_t_desk) (C := RX8) (T := TX8) (N := 9) hx hb hts hinX8 hown hK hP 0 rfl rfl 0 (by decide) (hta _ mw_358) (fun _ h9 => h9) rfl dX8_valence_54 ?_
  refine va_get (D := G) (ci := 1) (v := .long t_desk_tree) (C := RX1) (T := TX1) (N := 5) hx hb hts hinX1 hown hK hP 1 rfl rfl 4 (by decide) (hta _ mw_480) (fun _ h9 => h9) rfl dX8_valence_57 ?_
  refine lv_iload_n hx hb dX8_valence_60 rfl (lv_at hl 0 rfl) ?_
  obtain ⟨x2, hx2, h⟩ := bd_e h
  try dsimp only at h
  refine k_SiU (n := 2) (As := [.long t_desk_tree, .int x1]) (rest := []) hx hb hml hown hts (c_X6_leavesAt l G cI cJ cD cH H.size t_desk_tree x1 x2 hx2) gX8_valence_X6_leavesAt rfl rfl rfl (by decide +kernel) ⟨by first | exact Nat.le_of_ble_eq_true rfl | (simp only [headSpec]; omega), by first | exact Nat.le_of_ble_eq_true rfl | (simp only [headSpec]; omega)⟩ hK hP hD hS hA [] (by decide) rfl rfl rfl hl.1 (Nat.le_of_ble_eq_true rfl) dX8_valence_61 ⟨Nat.zero_le _, Nat.zero_le _⟩ (fun hp2 H locs hP hS => ?_)
  obtain ⟨x3, hx3, h⟩ := bd_e h
  try dsimp only at h
  refine k_SiU (n := 1) (As := [.int x2]) (rest := []) hx hb hml hown hts (c_J6_bitCount_0f7a4 l G cI cJ cD cH H.size x2 x3 hx3) gX8_valence_J6_bitCount_0f7a4 rfl rfl rfl (by decide +kernel) ⟨by first | exact Nat.le_of_ble_eq_true rfl | (simp only [headSpec]; omega), by first | exact Nat.le_of_ble_eq_true rfl | (simp only [headSpec]; omega)⟩ hK hP hD hS hA [] (by decide) rfl rfl rfl hl.1 (Nat.le_of_ble_eq_true rfl) dX8_valence_64 ⟨Nat.zero_le _, Nat.zero_le _⟩ (fun hp3 H locs hP hS => ?_)
  refine lv_istore_n (lv' := [(3, .int x3), (2, .int x1), (0, .ref h_t), (1, .int p0)]) hx hb dX8_valence_67 rfl hl (by decide) rfl (fun ls hl => ?_)
  refine lv_iload_n hx hb dX8_valence_68 rfl (lv_at hl 0 rfl) ?_
  refine lv_aload_n hx hb dX8_valence_69 rfl (lv_at hl 2 rfl) ?_
  refine va_get (D := G) (ci := 7) (v := .ref h_t_desk) (C := RX8) (T := TX8) (N := 9) hx hb hts hinX8 hown hK hP 0 rfl rfl 0 (by decide) (hta _ mw_358) (fun _ h9 => h9) rfl dX8_valence_70 ?_
  refine va_get (D := G) (ci := 1) (v := .long t_desk_tree) (C := RX1) (T := TX1) (N := 5) hx hb hts hinX1 hown hK hP 1 rfl rfl 4 (by decide) (hta _ mw_480) (fun _ h9 => h9) rfl dX8_valence_73 ?_
  refine lv_iload_n hx hb dX8_valence_76 rfl (lv_at hl 1 rfl) ?_
  obtain ⟨x4, hx4, h⟩ := bd_e h
  try dsimp only at h
  refine k_SiU (n := 2) (As := [.long t_desk_tree, .int x1]) (rest := [.int x3]) hx hb hml hown hts (c_X6_edgesDown l G cI cJ cD cH H.size t_desk_tree x1 x4 hx4) gX8_valence_X6_edgesDown rfl rfl rfl (by decide +kernel) ⟨by first | exact Nat.le_of_ble_eq_true rfl | (simp only [headSpec]; omega), by first | exact Nat.le_of_ble_eq_true rfl | (simp only [headSpec]; omega)⟩ hK hP hD hS hA [] (by decide) rfl rfl rfl hl.1 (Nat.le_of_ble_eq_true rfl) dX8_valence_77 ⟨Nat.zero_le _, Nat.zero_le _⟩ (fun hp4 H locs hP hS => ?_)
  refine lv_iadd hx hb dX8_valence_80 ?_
  refine lv_iconst (v := (1 : Int32)) hx hb dX8_valence_81 (by decide) ?_
  refine lv_iadd hx hb dX8_valence_82 ?_
  have h9 := Option.some.inj h
  have e9 : ((x3 + x4) + (1 : Int32)) = r0 := congrArg (fun z9 => z9) h9
  rw [← e9]
  exact k_iret hx hb hr hlocks hP hS rfl dX8_valence_83
set_option maxHeartbeats 4000000 in
set_option maxRecDepth 100000 in
theorem tJ_X8_valence_20 {l : Launch} {G : va_G} {cI cJ cD cH : ClassId} {h_t : Nat} {h_t_desk : Nat} {h_t_imageDesk : Nat} {h_t_deeds : Nat} {h_t_numbers : Nat} {h_t_tape : Nat} {h_t_reader : Nat} {h_t_speller : Nat} {h_t_holders : Nat} {h_t_desk_powers : Nat} {t_imageKept : Int32} {t_desk_genus : Int32} {t_desk_size : Int32} {t_desk_limit : Int32} {t_desk_tree : Int64} {p0 : Int32} {r0 : Int32} {p : Program} {e : Env} {s : State} {m : MethodId} {below : List Frame} {meth : Method} {c : Code} {A : Nat → Prop} (hx : p.tables.exec = Jvm.exec) (hb : c.code = cX8_valence) (hr : meth.sig.returnType = (some .int)) (hml : c.maxLocals = 4) (hts : ∀ w ∈ wsX8_valence, w.before ([.ref h_t, .int p0] : List Value).toArray s = true) (hown : s.vm.findClass RX8 = some m.cls) (hlocks : meth.locks = false) (hK : va_K G vwCl (k_T cI cJ cD cH) s) (hA : ∀ q : Nat, s.heap.size ≤ q → A q) : ∀ (H : Heap) (locs : List Loc) (ls : Array Slot), va_P G vwCl [(h_t, .inr (7, [.ref h_t_desk, .ref h_t_imageDesk, .ref h_t_deeds, .ref h_t_numbers, .ref h_t_tape, .ref h_t_reader, .ref h_t_speller, .ref h_t_holders, .int t_imageKept])), (h_t_desk, .inr (1, [.int t_desk_genus, .int t_desk_size, .ref h_t_desk_powers, .int t_desk_limit, .long t_desk_tree]))] H → va_D A [(h_t, .inr (7, [.ref h_t_desk, .ref h_t_imageDesk, .ref h_t_deeds, .ref h_t_numbers, .ref h_t_tape, .ref h_t_reader, .ref h_t_speller, .ref h_t_holders, .int t_imageKept])), (h_t_desk, .inr (1, [.int t_desk_genus, .int t_desk_size, .ref h_t_desk_powers, .int t_desk_limit, .long t_desk_tree]))] → va_S A s.heap H locs → lv_has ls 4 [(0, .ref h_t), (1, .int p0)] → J_X8_valence_20 t_desk_limit t_desk_tree p0 = some r0 → W p l e (headSpec wsX8_valence ({ frames := 4, cells := 0, slots := 0, locals := 100 })).room s m ([.ref h_t, .int p0] : List Value).toArray below meth c H locs 0 0 (MQ below (va_Qi (fun r (_ : Unit) => r = r0 ∧ True) (fun _ t => va_P G vwCl [(h_t, .inr (7, [.ref h_t_desk, .ref h_t_imageDesk, .ref h_t_deeds, .ref h_t_numbers, .ref h_t_tape, .ref h_t_reader, .ref h_t_speller, .ref h_t_holders, .int t_imageKept])), (h_t_desk, .inr (1, [.int t_desk_genus, .int t_desk_size, .ref h_t_desk_powers, .int t_desk_limit, .long t_desk_tree]))] t.heap) A) ([.ref h_t, .int p0] : List Value).toArray s 0 0 A) (F0 m 20 ls []) := by
  have hta : ∀ w ∈ wA, w.before ([.ref h_t, .int p0] : List Value).toArray s = true := hta_of hts
  have hinX1 : ∀ w ∈ wsX10, w ∈ wsX8_valence := hin_of in_X1
  have hinX8 : ∀ w ∈ wsX80, w ∈ wsX8_valence := hin_of in_X8
  intro  H locs ls hP hD hS hl h
  unfold J_X8_valence_20 at h
  refine lv_iload_n hx hb dX8_valence_20 rfl (lv_at hl 1 rfl) ?_
  refine lv_if_eq (tgt := 41) hx hb dX8_valence_21 (by decide) (fun c5 => ?_) (fun c5 => ?_)
  · have h := it_p h c5
    exact tJ_X8_valence_41 hx hb hr hml hts hown hlocks hK hA  _ _ _ hP hD hS (lv_sub hl [0, 1] rfl) h
  have h := it_n h c5
  refine lv_aload_n hx hb dX8_valence_24 rfl (lv_at hl 0 rfl) ?_
  refine va_get (D := G) (ci := 7) (v := .ref h_t_desk) (C := RX8) (T := TX8) (N := 9) hx hb hts hinX8 hown hK hP 0 rfl rfl 0 (by decide) (hta _ mw_358) (fun _ h9 => h9) rfl dX8_valence_25 ?_
  refine va_get (D := G) (ci := 1) (v := .long t_desk_tree) (C := RX1) (T := TX1) (N := 5) hx hb hts hinX1 hown hK hP 1 rfl rfl 4 (by decide) (hta _ mw_480) (fun _ h9 => h9) rfl dX8_valence_28 ?_
  refine lv_iload_n hx hb dX8_valence_31 rfl (lv_at hl 1 rfl) ?_
  obtain ⟨x6, hx6, h⟩ := bd_e h
  try dsimp only at h
  refine k_SiU (n := 2) (As := [.long t_desk_tree, .int p0]) (rest := []) hx hb hml hown hts (c_X6_has l G cI cJ cD cH H.size t_desk_tree p0 x6 hx6) gX8_valence_X6_has rfl rfl rfl (by decide +kernel) ⟨by first | exact Nat.le_of_ble_eq_true rfl | (simp only [headSpec]; omega), by first | exact Nat.le_of_ble_eq_true rfl | (simp only [headSpec]; omega)⟩ hK hP hD hS hA [] (by decide) rfl rfl rfl hl.1 (Nat.le_of_ble_eq_true rfl) dX8_valence_32 ⟨Nat.zero_le _, Nat.zero_le _⟩ (fun hp6 H locs hP hS => ?_)
  refine lv_if_ne (tgt := 41) hx hb dX8_valence_35 (by decide) (fun c7 => ?_) (fun c7 => ?_)
  · have h := it_n h c7
    exact tJ_X8_valence_41 hx hb hr hml hts hown hlocks hK hA  _ _ _ hP hD hS (lv_sub hl [0, 1] rfl) h
  have h := it_p h c7
  refine lv_bipush (v := (-5 : Int32)) hx hb dX8_valence_38 (by decide) ?_
  have h9 := Option.some.inj h
  have e9 : (-5 : Int32) = r0 := congrArg (fun z9 => z9) h9
  rw [← e9]
  exact k_iret hx hb hr hlocks hP hS rfl dX8_valence_40
set_option maxHeartbeats 4000000 in
set_option maxRecDepth 100000 in
theorem c_X8_valence (l : Launch) (G : va_G) (cI cJ cD cH : ClassId) (sz : Nat) (h_t : Nat) (h_t_desk : Nat) (h_t_imageDesk : Nat) (h_t_deeds : Nat) (h_t_numbers : Nat) (h_t_tape : Nat) (h_t_reader : Nat) (h_t_speller : Nat) (h_t_holders : Nat) (h_t_desk_powers : Nat) (t_imageKept : Int32) (t_desk_genus : Int32) (t_desk_size : Int32) (t_desk_limit : Int32) (t_desk_tree : Int64) (p0 : Int32) (r0 : Int32) (hF : F_X8_valence t_desk_limit t_desk_tree p0 = some r0) : Met l yX8_valence wsX8_valence ({ frames := 4, cells := 0, slots := 0, locals := 100 }) (k_pre G (k_T cI cJ cD cH) [(h_t, .inr (7, [.ref h_t_desk, .ref h_t_imageDesk, .ref h_t_deeds, .ref h_t_numbers, .ref h_t_tape, .ref h_t_reader, .ref h_t_speller, .ref h_t_holders, .int t_imageKept])), (h_t_desk, .inr (1, [.int t_desk_genus, .int t_desk_size, .ref h_t_desk_powers, .int t_desk_limit, .long t_desk_tree]))] sz [.ref h_t, .int p0]) (va_Qi (fun r (_ : Unit) => r = r0 ∧ True) (fun _ t => va_P G vwCl [(h_t, .inr (7, [.ref h_t_desk, .ref h_t_imageDesk, .ref h_t_deeds, .ref h_t_numbers, .ref h_t_tape, .ref h_t_reader, .ref h_t_speller, .ref h_t_holders, .int t_imageKept])), (h_t_desk, .inr (1, [.int t_desk_genus, .int t_desk_size, .ref h_t_desk_powers, .int t_desk_limit, .long t_desk_tree]))] t.heap) (va_A [(h_t, .inr (7, [.ref h_t_desk, .ref h_t_imageDesk, .ref h_t_deeds, .ref h_t_numbers, .ref h_t_tape, .ref h_t_reader, .ref h_t_speller, .ref h_t_holders, .int t_imageKept])), (h_t_desk, .inr (1, [.int t_desk_genus, .int t_desk_size, .ref h_t_desk_powers, .int t_desk_limit, .long t_desk_tree]))] sz)) 0 0 (va_A [(h_t, .inr (7, [.ref h_t_desk, .ref h_t_imageDesk, .ref h_t_deeds, .ref h_t_numbers, .ref h_t_tape, .ref h_t_reader, .ref h_t_speller, .ref h_t_holders, .int t_imageKept])), (h_t_desk, .inr (1, [.int t_desk_genus, .int t_desk_size, .ref h_t_desk_powers, .int t_desk_limit, .long t_desk_tree]))] sz) := by
  refine Met.ofW (cc := cX8_valence) (maxL := 4) (ret := (some .int)) (by decide) rfl ?_
  intro p e s m args below meth c s₁ B hml hv
  obtain ⟨rfl, hsz, hP, hK, hD0⟩ := hv
  have hx := B.exec
  have hb := B.bytes
  have hr := B.returns
  have hts := atoms_spec (ws := wsX8_valence) B.pre
  have hta : ∀ w ∈ wA, w.before ([.ref h_t, .int p0] : List Value).toArray s = true := hta_of hts
  have hown : s.vm.findClass RX8 = some m.cls := findClass_of_methodNamed B.named
  have hlocks := B.notSynchronized
  subst hsz
  have hD := hD0.self (sz := s.heap.size)
  generalize hAe : va_A [(h_t, .inr (7, [.ref h_t_desk, .ref h_t_imageDesk, .ref h_t_deeds, .ref h_t_numbers, .ref h_t_tape, .ref h_t_reader, .ref h_t_speller, .ref h_t_holders, .int t_imageKept])), (h_t_desk, .inr (1, [.int t_desk_genus, .int t_desk_size, .ref h_t_desk_powers, .int t_desk_limit, .long t_desk_tree]))] s.heap.size = A at hD ⊢
  have hA : ∀ q : Nat, s.heap.size ≤ q → A q := fun q h => by rw [← hAe]; exact Or.inr h
  have hS : va_S A s.heap s.heap [] := va_S.rf
  have hl := lv_entry ([.ref h_t, .int p0]) (n := 4) (Nat.le_of_ble_eq_true rfl)
  rw [lg_entry_eq]
  generalize (lg_sl ([.ref h_t, .int p0]) ++ List.replicate (4 - (lg_sl ([.ref h_t, .int p0])).length) Slot.unset).toArray = ls at hl ⊢
  have hl : lv_has ls 4 [(0, .ref h_t), (1, .int p0)] := hl
  have hinX1 : ∀ w ∈ wsX10, w ∈ wsX8_valence := hin_of in_X1
  have hinX8 : ∀ w ∈ wsX80, w ∈ wsX8_valence := hin_of in_X8
  have h := hF
  unfold F_X8_valence at h
  refine lv_iload_n hx hb dX8_valence_0 rfl (lv_at hl 1 rfl) ?_
  refine lv_if_eq (tgt := 20) hx hb dX8_valence_1 (by decide) (fun c8 => ?_) (fun c8 => ?_)
  · have h := it_p h c8
    exact tJ_X8_valence_20 hx hb hr hml hts hown hlocks hK hA  _ _ _ hP hD hS (lv_sub hl [0, 1] rfl) h
  have h := it_n h c8
  refine lv_iload_n hx hb dX8_valence_4 rfl (lv_at hl 1 rfl) ?_
  refine lv_aload_n hx hb dX8_valence_5 rfl (lv_at hl 0 rfl) ?_
  refine va_get (D := G) (ci := 7) (v := .ref h_t_desk) (C := RX8) (T := TX8) (N := 9) hx hb hts hinX8 hown hK hP 0 rfl rfl 0 (by decide) (hta _ mw_358) (fun _ h9 => h9) rfl dX8_valence_6 ?_
  refine va_get (D := G) (ci := 1) (v := .int t_desk_limit) (C := RX1) (T := TX1) (N := 5) hx hb hts hinX1 hown hK hP 1 rfl rfl 3 (by decide) (hta _ mw_479) (fun _ h9 => h9) rfl dX8_valence_9 ?_
  obtain ⟨x9, hx9, h⟩ := bd_e h
  try dsimp only at h
  refine k_SiU (n := 2) (As := [.int p0, .int t_desk_limit]) (rest := []) hx hb hml hown hts (c_X6_isSplit l G cI cJ cD cH s.heap.size p0 t_desk_limit x9 hx9) gX8_valence_X6_isSplit rfl rfl rfl (by decide +kernel) ⟨by first | exact Nat.le_of_ble_eq_true rfl | (simp only [headSpec]; omega), by first | exact Nat.le_of_ble_eq_true rfl | (simp only [headSpec]; omega)⟩ hK hP hD hS hA [] (by decide) rfl rfl rfl hl.1 (Nat.le_of_ble_eq_true rfl) dX8_valence_12 ⟨Nat.zero_le _, Nat.zero_le _⟩ (fun hp9 H locs hP hS => ?_)
  refine lv_if_ne (tgt := 20) hx hb dX8_valence_15 (by decide) (fun c10 => ?_) (fun c10 => ?_)
  · have h := it_n h c10
    exact tJ_X8_valence_20 hx hb hr hml hts hown hlocks hK hA  _ _ _ hP hD hS (lv_sub hl [0, 1] rfl) h
  have h := it_p h c10
  refine lv_iconst (v := (-1 : Int32)) hx hb dX8_valence_18 (by decide) ?_
  have h9 := Option.some.inj h
  have e9 : (-1 : Int32) = r0 := congrArg (fun z9 => z9) h9
  rw [← e9]
  exact k_iret hx hb hr hlocks hP hS rfl dX8_valence_19

/-! X8_isSplitCount -/
set_option maxHeartbeats 4000000 in
set_option maxRecDepth 100000 in
theorem c_X8_isSplitCount (l : Launch) (G : va_G) (cI cJ cD cH : ClassId) (sz : Nat) (p0 : Int32) (r0 : Int32) (hF : F_X8_isSplitCount p0 = some r0) : Met l yX8_isSplitCount wsX8_isSplitCount ({ frames := 0, cells := 0, slots := 0, locals := 0 }) (k_pre G (k_T cI cJ cD cH) [] sz [.int p0]) (va_Qi (fun r (_ : Unit) => r = r0 ∧ narrow .boolean (.int r0) = .int r0) (fun _ t => va_P G vwCl [] t.heap) (va_A [] sz)) 0 0 (va_A [] sz) := by
  refine Met.ofW (cc := cX8_isSplitCount) (maxL := 1) (ret := (some .boolean)) (by decide) rfl ?_
  intro p e s m args below meth c s₁ B hml hv
  obtain ⟨rfl, hsz, hP, hK, hD0⟩ := hv
  have hx := B.exec
  have hb := B.bytes
  have hr := B.returns
  have hts := atoms_spec (ws := wsX8_isSplitCount) B.pre
  have hta : ∀ w ∈ wA, w.before ([.int p0] : List Value).toArray s = true := hta_of hts
  have hown : s.vm.findClass RX8 = some m.cls := findClass_of_methodNamed B.named
  have hlocks := B.notSynchronized
  subst hsz
  have hD := hD0.self (sz := s.heap.size)
  generalize hAe : va_A [] s.heap.size = A at hD ⊢
  have hA : ∀ q : Nat, s.heap.size ≤ q → A q := fun q h => by rw [← hAe]; exact Or.inr h
  have hS : va_S A s.heap s.heap [] := va_S.rf
  have hl := lv_entry ([.int p0]) (n := 1) (Nat.le_of_ble_eq_true rfl)
  rw [lg_entry_eq]
  generalize (lg_sl ([.int p0]) ++ List.replicate (1 - (lg_sl ([.int p0])).length) Slot.unset).toArray = ls at hl ⊢
  have hl : lv_has ls 1 [(0, .int p0)] := hl
  have h := hF
  unfold F_X8_isSplitCount at h
  refine lv_iload_n hx hb dX8_isSplitCount_0 rfl (lv_at hl 0 rfl) ?_
  refine lv_if_lt (tgt := 14) hx hb dX8_isSplitCount_1 (by decide) (fun c1 => ?_) (fun c1 => ?_)
  · have h := it_p h c1
    refine lv_iconst (v := (0 : Int32)) hx hb dX8_isSplitCount_14 (by decide) ?_
    have h9 := Option.some.inj h
    have e9 : (0 : Int32) = r0 := congrArg (fun z9 => z9) h9
    rw [← e9]
    exact k_zret hx hb hr hlocks hP hS rfl rfl dX8_isSplitCount_15
  have h := it_n h c1
  refine lv_iload_n hx hb dX8_isSplitCount_4 rfl (lv_at hl 0 rfl) ?_
  refine lv_bipush (v := (9 : Int32)) hx hb dX8_isSplitCount_5 (by decide) ?_
  refine lv_icmp_gt (tgt := 14) hx hb dX8_isSplitCount_7 (by decide) (fun c2 => ?_) (fun c2 => ?_)
  · have h := it_p h c2
    refine lv_iconst (v := (0 : Int32)) hx hb dX8_isSplitCount_14 (by decide) ?_
    have h9 := Option.some.inj h
    have e9 : (0 : Int32) = r0 := congrArg (fun z9 => z9) h9
    rw [← e9]
    exact k_zret hx hb hr hlocks hP hS rfl rfl dX8_isSplitCount_15
  have h := it_n h c2
  refine lv_iconst (v := (1 : Int32)) hx hb dX8_isSplitCount_10 (by decide) ?_
  refine lv_goto (tgt := 15) hx hb dX8_isSplitCount_11 (by decide) ?_
  have h9 := Option.some.inj h
  have e9 : (1 : Int32) = r0 := congrArg (fun z9 => z9) h9
  rw [← e9]
  exact k_zret hx hb hr hlocks hP hS rfl rfl dX8_isSplitCount_15

/-! X8_trees -/
set_option maxHeartbeats 4000000 in
set_option maxRecDepth 100000 in
theorem c_X8_trees (l : Launch) (G : va_G) (cI cJ cD cH : ClassId) (sz : Nat) (h_t : Nat) (h_t_desk : Nat) (h_t_imageDesk : Nat) (h_t_deeds : Nat) (h_t_numbers : Nat) (h_t_tape : Nat) (h_t_reader : Nat) (h_t_speller : Nat) (h_t_holders : Nat) (t_imageKept : Int32) (p0 : Int32) (p1 : Int32) (r0 : Int32) (hF : F_X8_trees p0 p1 = some r0) : Met l yX8_trees wsX8_trees ({ frames := 13, cells := 0, slots := 0, locals := 326 }) (k_pre G (k_T cI cJ cD cH) [(h_t, .inr (7, [.ref h_t_desk, .ref h_t_imageDesk, .ref h_t_deeds, .ref h_t_numbers, .ref h_t_tape, .ref h_t_reader, .ref h_t_speller, .ref h_t_holders, .int t_imageKept]))] sz [.ref h_t, .int p0, .int p1]) (va_Qi (fun r (_ : Unit) => r = r0 ∧ True) (fun _ t => va_P G vwCl [(h_t, .inr (7, [.ref h_t_desk, .ref h_t_imageDesk, .ref h_t_deeds, .ref h_t_numbers, .ref h_t_tape, .ref h_t_reader, .ref h_t_speller, .ref h_t_holders, .int t_imageKept]))] t.heap) (va_A [(h_t, .inr (7, [.ref h_t_desk, .ref h_t_imageDesk, .ref h_t_deeds, .ref h_t_numbers, .ref h_t_tape, .ref h_t_reader, .ref h_t_speller, .ref h_t_holders, .int t_imageKept]))] sz)) 0 0 (va_A [(h_t, .inr (7, [.ref h_t_desk, .ref h_t_imageDesk, .ref h_t_deeds, .ref h_t_numbers, .ref h_t_tape, .ref h_t_reader, .ref h_t_speller, .ref h_t_holders, .int t_imageKept]))] sz) := by
  refine Met.ofW (cc := cX8_trees) (maxL := 3) (ret := (some .int)) (by decide) rfl ?_
  intro p e s m args below meth c s₁ B hml hv
  obtain ⟨rfl, hsz, hP, hK, hD0⟩ := hv
  have hx := B.exec
  have hb := B.bytes
  have hr := B.returns
  have hts := atoms_spec (ws := wsX8_trees) B.pre
  have hta : ∀ w ∈ wA, w.before ([.ref h_t, .int p0, .int p1] : List Value).toArray s = true := hta_of hts
  have hown : s.vm.findClass RX8 = some m.cls := findClass_of_methodNamed B.named
  have hlocks := B.notSynchronized
  subst hsz
  have hD := hD0.self (sz := s.heap.size)
  generalize hAe : va_A [(h_t, .inr (7, [.ref h_t_desk, .ref h_t_imageDesk, .ref h_t_deeds, .ref h_t_numbers, .ref h_t_tape, .ref h_t_reader, .ref h_t_speller, .ref h_t_holders, .int t_imageKept]))] s.heap.size = A at hD ⊢
  have hA : ∀ q : Nat, s.heap.size ≤ q → A q := fun q h => by rw [← hAe]; exact Or.inr h
  have hS : va_S A s.heap s.heap [] := va_S.rf
  have hl := lv_entry ([.ref h_t, .int p0, .int p1]) (n := 3) (Nat.le_of_ble_eq_true rfl)
  rw [lg_entry_eq]
  generalize (lg_sl ([.ref h_t, .int p0, .int p1]) ++ List.replicate (3 - (lg_sl ([.ref h_t, .int p0, .int p1])).length) Slot.unset).toArray = ls at hl ⊢
  have hl : lv_has ls 3 [(0, .ref h_t), (1, .int p0), (2, .int p1)] := hl
  have h := hF
  unfold F_X8_trees at h
  refine lv_iload_n hx hb dX8_trees_0 rfl (lv_at hl 1 rfl) ?_
  obtain ⟨x1, hx1, h⟩ := bd_e h
  try dsimp only at h
  refine k_SiU (n := 1) (As := [.int p0]) (rest := []) hx hb hml hown hts (c_X6_isLeafCount l G cI cJ cD cH s.heap.size p0 x1 hx1) gX8_trees_X6_isLeafCount rfl rfl rfl (by decide +kernel) ⟨by first | exact Nat.le_of_ble_eq_true rfl | (simp only [headSpec]; omega), by first | exact Nat.le_of_ble_eq_true rfl | (simp only [headSpec]; omega)⟩ hK hP hD hS hA [] (by decide) rfl rfl rfl hl.1 (Nat.le_of_ble_eq_true rfl) dX8_trees_1 ⟨Nat.zero_le _, Nat.zero_le _⟩ (fun hp1 H locs hP hS => ?_)
  refine lv_if_eq (tgt := 14) hx hb dX8_trees_4 (by decide) (fun c2 => ?_) (fun c2 => ?_)
  · have h := it_p h c2
    refine lv_iconst (v := (-1 : Int32)) hx hb dX8_trees_14 (by decide) ?_
    have h9 := Option.some.inj h
    have e9 : (-1 : Int32) = r0 := congrArg (fun z9 => z9) h9
    rw [← e9]
    exact k_iret hx hb hr hlocks hP hS rfl dX8_trees_15
  have h := it_n h c2
  refine lv_iload_n hx hb dX8_trees_7 rfl (lv_at hl 2 rfl) ?_
  obtain ⟨x3, hx3, h⟩ := bd_e h
  try dsimp only at h
  refine k_SiU (n := 1) (As := [.int p1]) (rest := []) hx hb hml hown hts (c_X8_isSplitCount l G cI cJ cD cH H.size p1 x3 hx3) gX8_trees_X8_isSplitCount rfl rfl rfl (by decide +kernel) ⟨by first | exact Nat.le_of_ble_eq_true rfl | (simp only [headSpec]; omega), by first | exact Nat.le_of_ble_eq_true rfl | (simp only [headSpec]; omega)⟩ hK hP hD hS hA [] (by decide) rfl rfl rfl hl.1 (Nat.le_of_ble_eq_true rfl) dX8_trees_8 ⟨Nat.zero_le _, Nat.zero_le _⟩ (fun hp3 H locs hP hS => ?_)
  refine lv_if_ne (tgt := 16) hx hb dX8_trees_11 (by decide) (fun c4 => ?_) (fun c4 => ?_)
  rotate_left
  · have h := it_p h c4
    refine lv_iconst (v := (-1 : Int32)) hx hb dX8_trees_14 (by decide) ?_
    have h9 := Option.some.inj h
    have e9 : (-1 : Int32) = r0 := congrArg (fun z9 => z9) h9
    rw [← e9]
    exact k_iret hx hb hr hlocks hP hS rfl dX8_trees_15
  have h := it_n h c4
  refine lv_iload_n hx hb dX8_trees_16 rfl (lv_at hl 1 rfl) ?_
  refine lv_iload_n hx hb dX8_trees_17 rfl (lv_at hl 2 rfl) ?_
  obtain ⟨x5, hx5, h⟩ := bd_e h
  try dsimp only at h
  refine k_SiU (n := 2) (As := [.int p0, .int p1]) (rest := []) hx hb hml hown hts (c_X6_countTrees l G cI cJ cD cH H.size p0 p1 x5 hx5) gX8_trees_X6_countTrees rfl rfl rfl (by decide +kernel) ⟨by first | exact Nat.le_of_ble_eq_true rfl | (simp only [headSpec]; omega), by first | exact Nat.le_of_ble_eq_true rfl | (simp only [headSpec]; omega)⟩ hK hP hD hS hA [] (by decide) rfl rfl rfl hl.1 (Nat.le_of_ble_eq_true rfl) dX8_trees_18 ⟨Nat.zero_le _, Nat.zero_le _⟩ (fun hp5 H locs hP hS => ?_)
  have h9 := Option.some.inj h
  have e9 : x5 = r0 := congrArg (fun z9 => z9) h9
  rw [← e9]
  exact k_iret hx hb hr hlocks hP hS rfl dX8_trees_21

/-! X8_tree -/
set_option maxHeartbeats 4000000 in
set_option maxRecDepth 100000 in
theorem c_X8_tree (l : Launch) (G : va_G) (cI cJ cD cH : ClassId) (sz : Nat) (h_t : Nat) (h_t_desk : Nat) (h_t_imageDesk : Nat) (h_t_deeds : Nat) (h_t_numbers : Nat) (h_t_tape : Nat) (h_t_reader : Nat) (h_t_speller : Nat) (h_t_holders : Nat) (t_imageKept : Int32) (p0 : Int32) (p1 : Int32) (p2 : Int32) (p3 : Int32) (r0 : Int32) (hF : F_X8_tree p0 p1 p2 p3 = some r0) : Met l yX8_tree wsX8_tree ({ frames := 13, cells := 0, slots := 0, locals := 335 }) (k_pre G (k_T cI cJ cD cH) [(h_t, .inr (7, [.ref h_t_desk, .ref h_t_imageDesk, .ref h_t_deeds, .ref h_t_numbers, .ref h_t_tape, .ref h_t_reader, .ref h_t_speller, .ref h_t_holders, .int t_imageKept]))] sz [.ref h_t, .int p0, .int p1, .int p2, .int p3]) (va_Qi (fun r (_ : Unit) => r = r0 ∧ True) (fun _ t => va_P G vwCl [(h_t, .inr (7, [.ref h_t_desk, .ref h_t_imageDesk, .ref h_t_deeds, .ref h_t_numbers, .ref h_t_tape, .ref h_t_reader, .ref h_t_speller, .ref h_t_holders, .int t_imageKept]))] t.heap) (va_A [(h_t, .inr (7, [.ref h_t_desk, .ref h_t_imageDesk, .ref h_t_deeds, .ref h_t_numbers, .ref h_t_tape, .ref h_t_reader, .ref h_t_speller, .ref h_t_holders, .int t_imageKept]))] sz)) 0 0 (va_A [(h_t, .inr (7, [.ref h_t_desk, .ref h_t_imageDesk, .ref h_t_deeds, .ref h_t_numbers, .ref h_t_tape, .ref h_t_reader, .ref h_t_speller, .ref h_t_holders, .int t_imageKept]))] sz) := by
  refine Met.ofW (cc := cX8_tree) (maxL := 6) (ret := (some .int)) (by decide) rfl ?_
  intro p e s m args below meth c s₁ B hml hv
  obtain ⟨rfl, hsz, hP, hK, hD0⟩ := hv
  have hx := B.exec
  have hb := B.bytes
  have hr := B.returns
  have hts := atoms_spec (ws := wsX8_tree) B.pre
  have hta : ∀ w ∈ wA, w.before ([.ref h_t, .int p0, .int p1, .int p2, .int p3] : List Value).toArray s = true := hta_of hts
  have hown : s.vm.findClass RX8 = some m.cls := findClass_of_methodNamed B.named
  have hlocks := B.notSynchronized
  subst hsz
  have hD := hD0.self (sz := s.heap.size)
  generalize hAe : va_A [(h_t, .inr (7, [.ref h_t_desk, .ref h_t_imageDesk, .ref h_t_deeds, .ref h_t_numbers, .ref h_t_tape, .ref h_t_reader, .ref h_t_speller, .ref h_t_holders, .int t_imageKept]))] s.heap.size = A at hD ⊢
  have hA : ∀ q : Nat, s.heap.size ≤ q → A q := fun q h => by rw [← hAe]; exact Or.inr h
  have hS : va_S A s.heap s.heap [] := va_S.rf
  have hl := lv_entry ([.ref h_t, .int p0, .int p1, .int p2, .int p3]) (n := 6) (Nat.le_of_ble_eq_true rfl)
  rw [lg_entry_eq]
  generalize (lg_sl ([.ref h_t, .int p0, .int p1, .int p2, .int p3]) ++ List.replicate (6 - (lg_sl ([.ref h_t, .int p0, .int p1, .int p2, .int p3])).length) Slot.unset).toArray = ls at hl ⊢
  have hl : lv_has ls 6 [(0, .ref h_t), (1, .int p0), (2, .int p1), (3, .int p2), (4, .int p3)] := hl
  have h := hF
  unfold F_X8_tree at h
  refine lv_iload_n hx hb dX8_tree_0 rfl (lv_at hl 1 rfl) ?_
  obtain ⟨x1, hx1, h⟩ := bd_e h
  try dsimp only at h
  refine k_SiU (n := 1) (As := [.int p0]) (rest := []) hx hb hml hown hts (c_X6_isLeafCount l G cI cJ cD cH s.heap.size p0 x1 hx1) gX8_tree_X6_isLeafCount rfl rfl rfl (by decide +kernel) ⟨by first | exact Nat.le_of_ble_eq_true rfl | (simp only [headSpec]; omega), by first | exact Nat.le_of_ble_eq_true rfl | (simp only [headSpec]; omega)⟩ hK hP hD hS hA [] (by decide) rfl rfl rfl hl.1 (Nat.le_of_ble_eq_true rfl) dX8_tree_1 ⟨Nat.zero_le _, Nat.zero_le _⟩ (fun hp1 H locs hP hS => ?_)
  refine lv_if_eq (tgt := 23) hx hb dX8_tree_4 (by decide) (fun c2 => ?_) (fun c2 => ?_)
  · have h := it_p h c2
    refine lv_iconst (v := (-1 : Int32)) hx hb dX8_tree_23 (by decide) ?_
    have h9 := Option.some.inj h
    have e9 : (-1 : Int32) = r0 := congrArg (fun z9 => z9) h9
    rw [← e9]
    exact k_iret hx hb hr hlocks hP hS rfl dX8_tree_24
  have h := it_n h c2
  refine lv_iload_n hx hb dX8_tree_7 rfl (lv_at hl 2 rfl) ?_
  obtain ⟨x3, hx3, h⟩ := bd_e h
  try dsimp only at h
  refine k_SiU (n := 1) (As := [.int p1]) (rest := []) hx hb hml hown hts (c_X8_isSplitCount l G cI cJ cD cH H.size p1 x3 hx3) gX8_tree_X8_isSplitCount rfl rfl rfl (by decide +kernel) ⟨by first | exact Nat.le_of_ble_eq_true rfl | (simp only [headSpec]; omega), by first | exact Nat.le_of_ble_eq_true rfl | (simp only [headSpec]; omega)⟩ hK hP hD hS hA [] (by decide) rfl rfl rfl hl.1 (Nat.le_of_ble_eq_true rfl) dX8_tree_8 ⟨Nat.zero_le _, Nat.zero_le _⟩ (fun hp3 H locs hP hS => ?_)
  refine lv_if_eq (tgt := 23) hx hb dX8_tree_11 (by decide) (fun c4 => ?_) (fun c4 => ?_)
  · have h := it_p h c4
    refine lv_iconst (v := (-1 : Int32)) hx hb dX8_tree_23 (by decide) ?_
    have h9 := Option.some.inj h
    have e9 : (-1 : Int32) = r0 := congrArg (fun z9 => z9) h9
    rw [← e9]
    exact k_iret hx hb hr hlocks hP hS rfl dX8_tree_24
  have h := it_n h c4
  refine lv_iload_n hx hb dX8_tree_14 rfl (lv_at hl 3 rfl) ?_
  refine lv_if_lt (tgt := 23) hx hb dX8_tree_15 (by decide) (fun c5 => ?_) (fun c5 => ?_)
  · have h := it_p h c5
    refine lv_iconst (v := (-1 : Int32)) hx hb dX8_tree_23 (by decide) ?_
    have h9 := Option.some.inj h
    have e9 : (-1 : Int32) = r0 := congrArg (fun z9 => z9) h9
    rw [← e9]
    exact k_iret hx hb hr hlocks hP hS rfl dX8_tree_24
  have h := it_n h c5
  refine lv_iload hx hb dX8_tree_18 (lv_at hl 4 rfl) ?_
  refine lv_if_ge (tgt := 25) hx hb dX8_tree_20 (by decide) (fun c6 => ?_) (fun c6 => ?_)
  rotate_left
  · have h := it_n h c6
    refine lv_iconst (v := (-1 : Int32)) hx hb dX8_tree_23 (by decide) ?_
    have h9 := Option.some.inj h
    have e9 : (-1 : Int32) = r0 := congrArg (fun z9 => z9) h9
    rw [← e9]
    exact k_iret hx hb hr hlocks hP hS rfl dX8_tree_24
  have h := it_p h c6
  refine lv_iload_n hx hb dX8_tree_25 rfl (lv_at hl 1 rfl) ?_
  refine lv_iload_n hx hb dX8_tree_26 rfl (lv_at hl 2 rfl) ?_
  refine lv_iload_n hx hb dX8_tree_27 rfl (lv_at hl 3 rfl) ?_
  obtain ⟨x7, hx7, h⟩ := bd_e h
  try dsimp only at h
  refine k_SlU (n := 3) (As := [.int p0, .int p1, .int p2]) (rest := []) hx hb hml hown hts (c_X6_treeAt l G cI cJ cD cH H.size p0 p1 p2 x7 hx7) gX8_tree_X6_treeAt rfl rfl rfl (by decide +kernel) ⟨by first | exact Nat.le_of_ble_eq_true rfl | (simp only [headSpec]; omega), by first | exact Nat.le_of_ble_eq_true rfl | (simp only [headSpec]; omega)⟩ hK hP hD hS hA [] (by decide) rfl rfl rfl hl.1 (Nat.le_of_ble_eq_true rfl) dX8_tree_28 ⟨Nat.zero_le _, Nat.zero_le _⟩ (fun hp7 H locs hP hS => ?_)
  refine lv_iload hx hb dX8_tree_31 (lv_at hl 4 rfl) ?_
  obtain ⟨x8, hx8, h⟩ := bd_e h
  try dsimp only at h
  refine k_SiU (n := 2) (As := [.long x7, .int p3]) (rest := []) hx hb hml hown hts (c_X6_nth l G cI cJ cD cH H.size x7 p3 x8 hx8) gX8_tree_X6_nth rfl rfl rfl (by decide +kernel) ⟨by first | exact Nat.le_of_ble_eq_true rfl | (simp only [headSpec]; omega), by first | exact Nat.le_of_ble_eq_true rfl | (simp only [headSpec]; omega)⟩ hK hP hD hS hA [] (by decide) rfl rfl rfl hl.1 (Nat.le_of_ble_eq_true rfl) dX8_tree_33 ⟨Nat.zero_le _, Nat.zero_le _⟩ (fun hp8 H locs hP hS => ?_)
  refine lv_istore (lv' := [(5, .int x8), (0, .ref h_t), (1, .int p0), (2, .int p1), (3, .int p2), (4, .int p3)]) hx hb dX8_tree_36 hl (by decide) rfl (fun ls hl => ?_)
  refine lv_iload hx hb dX8_tree_38 (lv_at hl 0 rfl) ?_
  refine lv_iconst (v := (-1 : Int32)) hx hb dX8_tree_40 (by decide) ?_
  refine lv_icmp_ne (tgt := 49) hx hb dX8_tree_41 (by decide) (fun c9 => ?_) (fun c9 => ?_)
  · have h := it_n h c9
    refine lv_iload hx hb dX8_tree_49 (lv_at hl 0 rfl) ?_
    have h9 := Option.some.inj h
    have e9 : x8 = r0 := congrArg (fun z9 => z9) h9
    rw [← e9]
    exact k_iret hx hb hr hlocks hP hS rfl dX8_tree_51
  have h := it_p h c9
  refine lv_bipush (v := (-2 : Int32)) hx hb dX8_tree_44 (by decide) ?_
  refine lv_goto (tgt := 51) hx hb dX8_tree_46 (by decide) ?_
  have h9 := Option.some.inj h
  have e9 : (-2 : Int32) = r0 := congrArg (fun z9 => z9) h9
  rw [← e9]
  exact k_iret hx hb hr hlocks hP hS rfl dX8_tree_51

/-! X8_forget -/
set_option maxHeartbeats 40000000 in
set_option maxRecDepth 100000 in
theorem c_X8_forget (l : Launch) (G : va_G) (cI cJ cD cH : ClassId) (sz : Nat) (h_t : Nat) (h_t_desk : Nat) (h_t_deeds : Nat) (h_t_deeds_desks : Nat) (h_t_desk_powers : Nat) (h_t_imageDesk : Nat) (h_t_numbers : Nat) (h_t_tape : Nat) (h_t_reader : Nat) (h_t_speller : Nat) (h_t_holders : Nat) (d_t_deeds_desks : Nat → Nat) (q_t_deeds_desks : Nat → Nat) (a_t_deeds_desks : Nat → Nat → Int32) (t_deeds_desks_genus : Nat → Int32) (t_deeds_desks_size : Nat → Int32) (t_deeds_desks_limit : Nat → Int32) (t_deeds_desks_tree : Nat → Int64) (t_imageKept : Int32) (t_desk_genus : Int32) (t_desk_size : Int32) (t_desk_limit : Int32) (t_desk_tree : Int64) (t_deeds_now : Int32) (t_deeds_last : Int32) (a_t_desk_powers : Nat → Int32) (p0 : Int32) (r0 : Int32) (w0 : Int32) (w1 : Int64) (w2 : Int32) (w3 : Int32) (w4 : Nat → Nat → Int32) (w5 : Nat → Nat) (w6 : Nat → Int32) (w7 : Nat → Int32) (w8 : Nat → Nat) (w9 : Nat → Int32) (w10 : Nat → Int64) (hF : F_X8_forget d_t_deeds_desks q_t_deeds_desks a_t_deeds_desks t_deeds_desks_genus t_deeds_desks_size t_deeds_desks_limit t_deeds_desks_tree t_desk_genus t_desk_size t_desk_limit t_desk_tree t_deeds_now t_deeds_last a_t_desk_powers p0 = some (r0, w0, w1, w2, w3, w4, w5, w6, w7, w8, w9, w10)) : Met l yX8_forget wsX8_forget ({ frames := 4, cells := 0, slots := 0, locals := 86 }) (k_pre G (k_T cI cJ cD cH) [(h_t, .inr (7, [.ref h_t_desk, .ref h_t_imageDesk, .ref h_t_deeds, .ref h_t_numbers, .ref h_t_tape, .ref h_t_reader, .ref h_t_speller, .ref h_t_holders, .int t_imageKept])), (h_t_desk, .inr (1, [.int t_desk_genus, .int t_desk_size, .ref h_t_desk_powers, .int t_desk_limit, .long t_desk_tree])), (h_t_deeds, .inr (0, [.ref h_t_deeds_desks, .int t_deeds_now, .int t_deeds_last])), (h_t_deeds_desks, .inl (cD, 9, .inr (.inr (.inr (.inr (fun i => some (d_t_deeds_desks i))))))), ((d_t_deeds_desks 0), .inr (1, [.int (t_deeds_desks_genus 0), .int (t_deeds_desks_size 0), .ref (q_t_deeds_desks 0), .int (t_deeds_desks_limit 0), .long (t_deeds_desks_tree 0)])), ((q_t_deeds_desks 0), .inl (cI, 8, .inl (a_t_deeds_desks 0))), ((d_t_deeds_desks 1), .inr (1, [.int (t_deeds_desks_genus 1), .int (t_deeds_desks_size 1), .ref (q_t_deeds_desks 1), .int (t_deeds_desks_limit 1), .long (t_deeds_desks_tree 1)])), ((q_t_deeds_desks 1), .inl (cI, 8, .inl (a_t_deeds_desks 1))), ((d_t_deeds_desks 2), .inr (1, [.int (t_deeds_desks_genus 2), .int (t_deeds_desks_size 2), .ref (q_t_deeds_desks 2), .int (t_deeds_desks_limit 2), .long (t_deeds_desks_tree 2)])), ((q_t_deeds_desks 2), .inl (cI, 8, .inl (a_t_deeds_desks 2))), ((d_t_deeds_desks 3), .inr (1, [.int (t_deeds_desks_genus 3), .int (t_deeds_desks_size 3), .ref (q_t_deeds_desks 3), .int (t_deeds_desks_limit 3), .long (t_deeds_desks_tree 3)])), ((q_t_deeds_desks 3), .inl (cI, 8, .inl (a_t_deeds_desks 3))), ((d_t_deeds_desks 4), .inr (1, [.int (t_deeds_desks_genus 4), .int (t_deeds_desks_size 4), .ref (q_t_deeds_desks 4), .int (t_deeds_desks_limit 4), .long (t_deeds_desks_tree 4)])), ((q_t_deeds_desks 4), .inl (cI, 8, .inl (a_t_deeds_desks 4))), ((d_t_deeds_desks 5), .inr (1, [.int (t_deeds_desks_genus 5), .int (t_deeds_desks_size 5), .ref (q_t_deeds_desks 5), .int (t_deeds_desks_limit 5), .long (t_deeds_desks_tree 5)])), ((q_t_deeds_desks 5), .inl (cI, 8, .inl (a_t_deeds_desks 5))), ((d_t_deeds_desks 6), .inr (1, [.int (t_deeds_desks_genus 6), .int (t_deeds_desks_size 6), .ref (q_t_deeds_desks 6), .int (t_deeds_desks_limit 6), .long (t_deeds_desks_tree 6)])), ((q_t_deeds_desks 6), .inl (cI, 8, .inl (a_t_deeds_desks 6))), ((d_t_deeds_desks 7), .inr (1, [.int (t_deeds_desks_genus 7), .int (t_deeds_desks_size 7), .ref (q_t_deeds_desks 7), .int (t_deeds_desks_limit 7), .long (t_deeds_desks_tree 7)])), ((q_t_deeds_desks 7), .inl (cI, 8, .inl (a_t_deeds_desks 7))), ((d_t_deeds_desks 8), .inr (1, [.int (t_deeds_desks_genus 8), .int (t_deeds_desks_size 8), .ref (q_t_deeds_desks 8), .int (t_deeds_desks_limit 8), .long (t_deeds_desks_tree 8)])), ((q_t_deeds_desks 8), .inl (cI, 8, .inl (a_t_deeds_desks 8))), (h_t_desk_powers, .inl (cI, 8, .inl a_t_desk_powers))] sz [.ref h_t, .int p0]) (va_Qi (fun r (_ : Unit) => r = r0 ∧ True) (fun _ t => va_P G vwCl [(h_t, .inr (7, [.ref h_t_desk, .ref h_t_imageDesk, .ref h_t_deeds, .ref h_t_numbers, .ref h_t_tape, .ref h_t_reader, .ref h_t_speller, .ref h_t_holders, .int t_imageKept])), (h_t_desk, .inr (1, [.int t_desk_genus, .int t_desk_size, .ref h_t_desk_powers, .int w0, .long w1])), (h_t_deeds, .inr (0, [.ref h_t_deeds_desks, .int w2, .int w3])), (h_t_deeds_desks, .inl (cD, 9, .inr (.inr (.inr (.inr (fun i => some (w5 i))))))), ((w5 0), .inr (1, [.int (w6 0), .int (w9 0), .ref (w8 0), .int (w7 0), .long (w10 0)])), ((w8 0), .inl (cI, 8, .inl (w4 0))), ((w5 1), .inr (1, [.int (w6 1), .int (w9 1), .ref (w8 1), .int (w7 1), .long (w10 1)])), ((w8 1), .inl (cI, 8, .inl (w4 1))), ((w5 2), .inr (1, [.int (w6 2), .int (w9 2), .ref (w8 2), .int (w7 2), .long (w10 2)])), ((w8 2), .inl (cI, 8, .inl (w4 2))), ((w5 3), .inr (1, [.int (w6 3), .int (w9 3), .ref (w8 3), .int (w7 3), .long (w10 3)])), ((w8 3), .inl (cI, 8, .inl (w4 3))), ((w5 4), .inr (1, [.int (w6 4), .int (w9 4), .ref (w8 4), .int (w7 4), .long (w10 4)])), ((w8 4), .inl (cI, 8, .inl (w4 4))), ((w5 5), .inr (1, [.int (w6 5), .int (w9 5), .ref (w8 5), .int (w7 5), .long (w10 5)])), ((w8 5), .inl (cI, 8, .inl (w4 5))), ((w5 6), .inr (1, [.int (w6 6), .int (w9 6), .ref (w8 6), .int (w7 6), .long (w10 6)])), ((w8 6), .inl (cI, 8, .inl (w4 6))), ((w5 7), .inr (1, [.int (w6 7), .int (w9 7), .ref (w8 7), .int (w7 7), .long (w10 7)])), ((w8 7), .inl (cI, 8, .inl (w4 7))), ((w5 8), .inr (1, [.int (w6 8), .int (w9 8), .ref (w8 8), .int (w7 8), .long (w10 8)])), ((w8 8), .inl (cI, 8, .inl (w4 8))), (h_t_desk_powers, .inl (cI, 8, .inl a_t_desk_powers))] t.heap ∧ va_D (va_A [(h_t, .inr (7, [.ref h_t_desk, .ref h_t_imageDesk, .ref h_t_deeds, .ref h_t_numbers, .ref h_t_tape, .ref h_t_reader, .ref h_t_speller, .ref h_t_holders, .int t_imageKept])), (h_t_desk, .inr (1, [.int t_desk_genus, .int t_desk_size, .ref h_t_desk_powers, .int t_desk_limit, .long t_desk_tree])), (h_t_deeds, .inr (0, [.ref h_t_deeds_desks, .int t_deeds_now, .int t_deeds_last])), (h_t_deeds_desks, .inl (cD, 9, .inr (.inr (.inr (.inr (fun i => some (d_t_deeds_desks i))))))), ((d_t_deeds_desks 0), .inr (1, [.int (t_deeds_desks_genus 0), .int (t_deeds_desks_size 0), .ref (q_t_deeds_desks 0), .int (t_deeds_desks_limit 0), .long (t_deeds_desks_tree 0)])), ((q_t_deeds_desks 0), .inl (cI, 8, .inl (a_t_deeds_desks 0))), ((d_t_deeds_desks 1), .inr (1, [.int (t_deeds_desks_genus 1), .int (t_deeds_desks_size 1), .ref (q_t_deeds_desks 1), .int (t_deeds_desks_limit 1), .long (t_deeds_desks_tree 1)])), ((q_t_deeds_desks 1), .inl (cI, 8, .inl (a_t_deeds_desks 1))), ((d_t_deeds_desks 2), .inr (1, [.int (t_deeds_desks_genus 2), .int (t_deeds_desks_size 2), .ref (q_t_deeds_desks 2), .int (t_deeds_desks_limit 2), .long (t_deeds_desks_tree 2)])), ((q_t_deeds_desks 2), .inl (cI, 8, .inl (a_t_deeds_desks 2))), ((d_t_deeds_desks 3), .inr (1, [.int (t_deeds_desks_genus 3), .int (t_deeds_desks_size 3), .ref (q_t_deeds_desks 3), .int (t_deeds_desks_limit 3), .long (t_deeds_desks_tree 3)])), ((q_t_deeds_desks 3), .inl (cI, 8, .inl (a_t_deeds_desks 3))), ((d_t_deeds_desks 4), .inr (1, [.int (t_deeds_desks_genus 4), .int (t_deeds_desks_size 4), .ref (q_t_deeds_desks 4), .int (t_deeds_desks_limit 4), .long (t_deeds_desks_tree 4)])), ((q_t_deeds_desks 4), .inl (cI, 8, .inl (a_t_deeds_desks 4))), ((d_t_deeds_desks 5), .inr (1, [.int (t_deeds_desks_genus 5), .int (t_deeds_desks_size 5), .ref (q_t_deeds_desks 5), .int (t_deeds_desks_limit 5), .long (t_deeds_desks_tree 5)])), ((q_t_deeds_desks 5), .inl (cI, 8, .inl (a_t_deeds_desks 5))), ((d_t_deeds_desks 6), .inr (1, [.int (t_deeds_desks_genus 6), .int (t_deeds_desks_size 6), .ref (q_t_deeds_desks 6), .int (t_deeds_desks_limit 6), .long (t_deeds_desks_tree 6)])), ((q_t_deeds_desks 6), .inl (cI, 8, .inl (a_t_deeds_desks 6))), ((d_t_deeds_desks 7), .inr (1, [.int (t_deeds_desks_genus 7), .int (t_deeds_desks_size 7), .ref (q_t_deeds_desks 7), .int (t_deeds_desks_limit 7), .long (t_deeds_desks_tree 7)])), ((q_t_deeds_desks 7), .inl (cI, 8, .inl (a_t_deeds_desks 7))), ((d_t_deeds_desks 8), .inr (1, [.int (t_deeds_desks_genus 8), .int (t_deeds_desks_size 8), .ref (q_t_deeds_desks 8), .int (t_deeds_desks_limit 8), .long (t_deeds_desks_tree 8)])), ((q_t_deeds_desks 8), .inl (cI, 8, .inl (a_t_deeds_desks 8))), (h_t_desk_powers, .inl (cI, 8, .inl a_t_desk_powers))] sz) [(h_t, .inr (7, [.ref h_t_desk, .ref h_t_imageDesk, .ref h_t_deeds, .ref h_t_numbers, .ref h_t_tape, .ref h_t_reader, .ref h_t_speller, .ref h_t_holders, .int t_imageKept])), (h_t_desk, .inr (1, [.int t_desk_genus, .int t_desk_size, .ref h_t_desk_powers, .int w0, .long w1])), (h_t_deeds, .inr (0, [.ref h_t_deeds_desks, .int w2, .int w3])), (h_t_deeds_desks, .inl (cD, 9, .inr (.inr (.inr (.inr (fun i => some (w5 i))))))), ((w5 0), .inr (1, [.int (w6 0), .int (w9 0), .ref (w8 0), .int (w7 0), .long (w10 0)])), ((w8 0), .inl (cI, 8, .inl (w4 0))), ((w5 1), .inr (1, [.int (w6 1), .int (w9 1), .ref (w8 1), .int (w7 1), .long (w10 1)])), ((w8 1), .inl (cI, 8, .inl (w4 1))), ((w5 2), .inr (1, [.int (w6 2), .int (w9 2), .ref (w8 2), .int (w7 2), .long (w10 2)])), ((w8 2), .inl (cI, 8, .inl (w4 2))), ((w5 3), .inr (1, [.int (w6 3), .int (w9 3), .ref (w8 3), .int (w7 3), .long (w10 3)])), ((w8 3), .inl (cI, 8, .inl (w4 3))), ((w5 4), .inr (1, [.int (w6 4), .int (w9 4), .ref (w8 4), .int (w7 4), .long (w10 4)])), ((w8 4), .inl (cI, 8, .inl (w4 4))), ((w5 5), .inr (1, [.int (w6 5), .int (w9 5), .ref (w8 5), .int (w7 5), .long (w10 5)])), ((w8 5), .inl (cI, 8, .inl (w4 5))), ((w5 6), .inr (1, [.int (w6 6), .int (w9 6), .ref (w8 6), .int (w7 6), .long (w10 6)])), ((w8 6), .inl (cI, 8, .inl (w4 6))), ((w5 7), .inr (1, [.int (w6 7), .int (w9 7), .ref (w8 7), .int (w7 7), .long (w10 7)])), ((w8 7), .inl (cI, 8, .inl (w4 7))), ((w5 8), .inr (1, [.int (w6 8), .int (w9 8), .ref (w8 8), .int (w7 8), .long (w10 8)])), ((w8 8), .inl (cI, 8, .inl (w4 8))), (h_t_desk_powers, .inl (cI, 8, .inl a_t_desk_powers))]) (va_A [(h_t, .inr (7, [.ref h_t_desk, .ref h_t_imageDesk, .ref h_t_deeds, .ref h_t_numbers, .ref h_t_tape, .ref h_t_reader, .ref h_t_speller, .ref h_t_holders, .int t_imageKept])), (h_t_desk, .inr (1, [.int t_desk_genus, .int t_desk_size, .ref h_t_desk_powers, .int t_desk_limit, .long t_desk_tree])), (h_t_deeds, .inr (0, [.ref h_t_deeds_desks, .int t_deeds_now, .int t_deeds_last])), (h_t_deeds_desks, .inl (cD, 9, .inr (.inr (.inr (.inr (fun i => some (d_t_deeds_desks i))))))), ((d_t_deeds_desks 0), .inr (1, [.int (t_deeds_desks_genus 0), .int (t_deeds_desks_size 0), .ref (q_t_deeds_desks 0), .int (t_deeds_desks_limit 0), .long (t_deeds_desks_tree 0)])), ((q_t_deeds_desks 0), .inl (cI, 8, .inl (a_t_deeds_desks 0))), ((d_t_deeds_desks 1), .inr (1, [.int (t_deeds_desks_genus 1), .int (t_deeds_desks_size 1), .ref (q_t_deeds_desks 1), .int (t_deeds_desks_limit 1), .long (t_deeds_desks_tree 1)])), ((q_t_deeds_desks 1), .inl (cI, 8, .inl (a_t_deeds_desks 1))), ((d_t_deeds_desks 2), .inr (1, [.int (t_deeds_desks_genus 2), .int (t_deeds_desks_size 2), .ref (q_t_deeds_desks 2), .int (t_deeds_desks_limit 2), .long (t_deeds_desks_tree 2)])), ((q_t_deeds_desks 2), .inl (cI, 8, .inl (a_t_deeds_desks 2))), ((d_t_deeds_desks 3), .inr (1, [.int (t_deeds_desks_genus 3), .int (t_deeds_desks_size 3), .ref (q_t_deeds_desks 3), .int (t_deeds_desks_limit 3), .long (t_deeds_desks_tree 3)])), ((q_t_deeds_desks 3), .inl (cI, 8, .inl (a_t_deeds_desks 3))), ((d_t_deeds_desks 4), .inr (1, [.int (t_deeds_desks_genus 4), .int (t_deeds_desks_size 4), .ref (q_t_deeds_desks 4), .int (t_deeds_desks_limit 4), .long (t_deeds_desks_tree 4)])), ((q_t_deeds_desks 4), .inl (cI, 8, .inl (a_t_deeds_desks 4))), ((d_t_deeds_desks 5), .inr (1, [.int (t_deeds_desks_genus 5), .int (t_deeds_desks_size 5), .ref (q_t_deeds_desks 5), .int (t_deeds_desks_limit 5), .long (t_deeds_desks_tree 5)])), ((q_t_deeds_desks 5), .inl (cI, 8, .inl (a_t_deeds_desks 5))), ((d_t_deeds_desks 6), .inr (1, [.int (t_deeds_desks_genus 6), .int (t_deeds_desks_size 6), .ref (q_t_deeds_desks 6), .int (t_deeds_desks_limit 6), .long (t_deeds_desks_tree 6)])), ((q_t_deeds_desks 6), .inl (cI, 8, .inl (a_t_deeds_desks 6))), ((d_t_deeds_desks 7), .inr (1, [.int (t_deeds_desks_genus 7), .int (t_deeds_desks_size 7), .ref (q_t_deeds_desks 7), .int (t_deeds_desks_limit 7), .long (t_deeds_desks_tree 7)])), ((q_t_deeds_desks 7), .inl (cI, 8, .inl (a_t_deeds_desks 7))), ((d_t_deeds_desks 8), .inr (1, [.int (t_deeds_desks_genus 8), .int (t_deeds_desks_size 8), .ref (q_t_deeds_desks 8), .int (t_deeds_desks_limit 8), .long (t_deeds_desks_tree 8)])), ((q_t_deeds_desks 8), .inl (cI, 8, .inl (a_t_deeds_desks 8))), (h_t_desk_powers, .inl (cI, 8, .inl a_t_desk_powers))] sz)) 0 0 (va_A [(h_t, .inr (7, [.ref h_t_desk, .ref h_t_imageDesk, .ref h_t_deeds, .ref h_t_numbers, .ref h_t_tape, .ref h_t_reader, .ref h_t_speller, .ref h_t_holders, .int t_imageKept])), (h_t_desk, .inr (1, [.int t_desk_genus, .int t_desk_size, .ref h_t_desk_powers, .int t_desk_limit, .long t_desk_tree])), (h_t_deeds, .inr (0, [.ref h_t_deeds_desks, .int t_deeds_now, .int t_deeds_last])), (h_t_deeds_desks, .inl (cD, 9, .inr (.inr (.inr (.inr (fun i => some (d_t_deeds_desks i))))))), ((d_t_deeds_desks 0), .inr (1, [.int (t_deeds_desks_genus 0), .int (t_deeds_desks_size 0), .ref (q_t_deeds_desks 0), .int (t_deeds_desks_limit 0), .long (t_deeds_desks_tree 0)])), ((q_t_deeds_desks 0), .inl (cI, 8, .inl (a_t_deeds_desks 0))), ((d_t_deeds_desks 1), .inr (1, [.int (t_deeds_desks_genus 1), .int (t_deeds_desks_size 1), .ref (q_t_deeds_desks 1), .int (t_deeds_desks_limit 1), .long (t_deeds_desks_tree 1)])), ((q_t_deeds_desks 1), .inl (cI, 8, .inl (a_t_deeds_desks 1))), ((d_t_deeds_desks 2), .inr (1, [.int (t_deeds_desks_genus 2), .int (t_deeds_desks_size 2), .ref (q_t_deeds_desks 2), .int (t_deeds_desks_limit 2), .long (t_deeds_desks_tree 2)])), ((q_t_deeds_desks 2), .inl (cI, 8, .inl (a_t_deeds_desks 2))), ((d_t_deeds_desks 3), .inr (1, [.int (t_deeds_desks_genus 3), .int (t_deeds_desks_size 3), .ref (q_t_deeds_desks 3), .int (t_deeds_desks_limit 3), .long (t_deeds_desks_tree 3)])), ((q_t_deeds_desks 3), .inl (cI, 8, .inl (a_t_deeds_desks 3))), ((d_t_deeds_desks 4), .inr (1, [.int (t_deeds_desks_genus 4), .int (t_deeds_desks_size 4), .ref (q_t_deeds_desks 4), .int (t_deeds_desks_limit 4), .long (t_deeds_desks_tree 4)])), ((q_t_deeds_desks 4), .inl (cI, 8, .inl (a_t_deeds_desks 4))), ((d_t_deeds_desks 5), .inr (1, [.int (t_deeds_desks_genus 5), .int (t_deeds_desks_size 5), .ref (q_t_deeds_desks 5), .int (t_deeds_desks_limit 5), .long (t_deeds_desks_tree 5)])), ((q_t_deeds_desks 5), .inl (cI, 8, .inl (a_t_deeds_desks 5))), ((d_t_deeds_desks 6), .inr (1, [.int (t_deeds_desks_genus 6), .int (t_deeds_desks_size 6), .ref (q_t_deeds_desks 6), .int (t_deeds_desks_limit 6), .long (t_deeds_desks_tree 6)])), ((q_t_deeds_desks 6), .inl (cI, 8, .inl (a_t_deeds_desks 6))), ((d_t_deeds_desks 7), .inr (1, [.int (t_deeds_desks_genus 7), .int (t_deeds_desks_size 7), .ref (q_t_deeds_desks 7), .int (t_deeds_desks_limit 7), .long (t_deeds_desks_tree 7)])), ((q_t_deeds_desks 7), .inl (cI, 8, .inl (a_t_deeds_desks 7))), ((d_t_deeds_desks 8), .inr (1, [.int (t_deeds_desks_genus 8), .int (t_deeds_desks_size 8), .ref (q_t_deeds_desks 8), .int (t_deeds_desks_limit 8), .long (t_deeds_desks_tree 8)])), ((q_t_deeds_desks 8), .inl (cI, 8, .inl (a_t_deeds_desks 8))), (h_t_desk_powers, .inl (cI, 8, .inl a_t_desk_powers))] sz) := by
  refine Met.ofW (cc := cX8_forget) (maxL := 2) (ret := (some .int)) (by decide) rfl ?_
  intro p e s m args below meth c s₁ B hml hv
  obtain ⟨rfl, hsz, hP, hK, hD0⟩ := hv
  have hx := B.exec
  have hb := B.bytes
  have hr := B.returns
  have hts := atoms_spec (ws := wsX8_forget) B.pre
  have hta : ∀ w ∈ wA, w.before ([.ref h_t, .int p0] : List Value).toArray s = true := hta_of hts
  have hown : s.vm.findClass RX8 = some m.cls := findClass_of_methodNamed B.named
  have hlocks := B.notSynchronized
  subst hsz
  have hD := hD0.self (sz := s.heap.size)
  generalize hAe : va_A [(h_t, .inr (7, [.ref h_t_desk, .ref h_t_imageDesk, .ref h_t_deeds, .ref h_t_numbers, .ref h_t_tape, .ref h_t_reader, .ref h_t_speller, .ref h_t_holders, .int t_imageKept])), (h_t_desk, .inr (1, [.int t_desk_genus, .int t_desk_size, .ref h_t_desk_powers, .int t_desk_limit, .long t_desk_tree])), (h_t_deeds, .inr (0, [.ref h_t_deeds_desks, .int t_deeds_now, .int t_deeds_last])), (h_t_deeds_desks, .inl (cD, 9, .inr (.inr (.inr (.inr (fun i => some (d_t_deeds_desks i))))))), ((d_t_deeds_desks 0), .inr (1, [.int (t_deeds_desks_genus 0), .int (t_deeds_desks_size 0), .ref (q_t_deeds_desks 0), .int (t_deeds_desks_limit 0), .long (t_deeds_desks_tree 0)])), ((q_t_deeds_desks 0), .inl (cI, 8, .inl (a_t_deeds_desks 0))), ((d_t_deeds_desks 1), .inr (1, [.int (t_deeds_desks_genus 1), .int (t_deeds_desks_size 1), .ref (q_t_deeds_desks 1), .int (t_deeds_desks_limit 1), .long (t_deeds_desks_tree 1)])), ((q_t_deeds_desks 1), .inl (cI, 8, .inl (a_t_deeds_desks 1))), ((d_t_deeds_desks 2), .inr (1, [.int (t_deeds_desks_genus 2), .int (t_deeds_desks_size 2), .ref (q_t_deeds_desks 2), .int (t_deeds_desks_limit 2), .long (t_deeds_desks_tree 2)])), ((q_t_deeds_desks 2), .inl (cI, 8, .inl (a_t_deeds_desks 2))), ((d_t_deeds_desks 3), .inr (1, [.int (t_deeds_desks_genus 3), .int (t_deeds_desks_size 3), .ref (q_t_deeds_desks 3), .int (t_deeds_desks_limit 3), .long (t_deeds_desks_tree 3)])), ((q_t_deeds_desks 3), .inl (cI, 8, .inl (a_t_deeds_desks 3))), ((d_t_deeds_desks 4), .inr (1, [.int (t_deeds_desks_genus 4), .int (t_deeds_desks_size 4), .ref (q_t_deeds_desks 4), .int (t_deeds_desks_limit 4), .long (t_deeds_desks_tree 4)])), ((q_t_deeds_desks 4), .inl (cI, 8, .inl (a_t_deeds_desks 4))), ((d_t_deeds_desks 5), .inr (1, [.int (t_deeds_desks_genus 5), .int (t_deeds_desks_size 5), .ref (q_t_deeds_desks 5), .int (t_deeds_desks_limit 5), .long (t_deeds_desks_tree 5)])), ((q_t_deeds_desks 5), .inl (cI, 8, .inl (a_t_deeds_desks 5))), ((d_t_deeds_desks 6), .inr (1, [.int (t_deeds_desks_genus 6), .int (t_deeds_desks_size 6), .ref (q_t_deeds_desks 6), .int (t_deeds_desks_limit 6), .long (t_deeds_desks_tree 6)])), ((q_t_deeds_desks 6), .inl (cI, 8, .inl (a_t_deeds_desks 6))), ((d_t_deeds_desks 7), .inr (1, [.int (t_deeds_desks_genus 7), .int (t_deeds_desks_size 7), .ref (q_t_deeds_desks 7), .int (t_deeds_desks_limit 7), .long (t_deeds_desks_tree 7)])), ((q_t_deeds_desks 7), .inl (cI, 8, .inl (a_t_deeds_desks 7))), ((d_t_deeds_desks 8), .inr (1, [.int (t_deeds_desks_genus 8), .int (t_deeds_desks_size 8), .ref (q_t_deeds_desks 8), .int (t_deeds_desks_limit 8), .long (t_deeds_desks_tree 8)])), ((q_t_deeds_desks 8), .inl (cI, 8, .inl (a_t_deeds_desks 8))), (h_t_desk_powers, .inl (cI, 8, .inl a_t_desk_powers))] s.heap.size = A at hD ⊢
  have hA : ∀ q : Nat, s.heap.size ≤ q → A q := fun q h => by rw [← hAe]; exact Or.inr h
  have hS : va_S A s.heap s.heap [] := va_S.rf
  have hl := lv_entry ([.ref h_t, .int p0]) (n := 2) (Nat.le_of_ble_eq_true rfl)
  rw [lg_entry_eq]
  generalize (lg_sl ([.ref h_t, .int p0]) ++ List.replicate (2 - (lg_sl ([.ref h_t, .int p0])).length) Slot.unset).toArray = ls at hl ⊢
  have hl : lv_has ls 2 [(0, .ref h_t), (1, .int p0)] := hl
  have hinX1 : ∀ w ∈ wsX10, w ∈ wsX8_forget := hin_of in_X1
  have hinX8 : ∀ w ∈ wsX80, w ∈ wsX8_forget := hin_of in_X8
  have h := hF
  unfold F_X8_forget at h
  refine lv_iload_n hx hb dX8_forget_0 rfl (lv_at hl 1 rfl) ?_
  refine lv_if_lt (tgt := 15) hx hb dX8_forget_1 (by decide) (fun c1 => ?_) (fun c1 => ?_)
  · have h := it_p h c1
    refine lv_iconst (v := (-1 : Int32)) hx hb dX8_forget_15 (by decide) ?_
    have h9 := Option.some.inj h
    have e9 : (-1 : Int32) = r0 := congrArg (fun z9 => z9.1) h9
    rw [← e9]
    have e9 : t_desk_limit = w0 := congrArg (fun z9 => z9.2.1) h9
    rw [← e9]
    have e9 : t_desk_tree = w1 := congrArg (fun z9 => z9.2.2.1) h9
    rw [← e9]
    have e9 : t_deeds_now = w2 := congrArg (fun z9 => z9.2.2.2.1) h9
    rw [← e9]
    have e9 : t_deeds_last = w3 := congrArg (fun z9 => z9.2.2.2.2.1) h9
    rw [← e9]
    have e9 : a_t_deeds_desks = w4 := congrArg (fun z9 => z9.2.2.2.2.2.1) h9
    rw [← e9]
    have e9 : d_t_deeds_desks = w5 := congrArg (fun z9 => z9.2.2.2.2.2.2.1) h9
    rw [← e9]
    have e9 : t_deeds_desks_genus = w6 := congrArg (fun z9 => z9.2.2.2.2.2.2.2.1) h9
    rw [← e9]
    have e9 : t_deeds_desks_limit = w7 := congrArg (fun z9 => z9.2.2.2.2.2.2.2.2.1) h9
    rw [← e9]
    have e9 : q_t_deeds_desks = w8 := congrArg (fun z9 => z9.2.2.2.2.2.2.2.2.2.1) h9
    rw [← e9]
    have e9 : t_deeds_desks_size = w9 := congrArg (fun z9 => z9.2.2.2.2.2.2.2.2.2.2.1) h9
    rw [← e9]
    have e9 : t_deeds_desks_tree = w10 := congrArg (fun z9 => z9.2.2.2.2.2.2.2.2.2.2.2) h9
    rw [← e9]
    exact k_iretP hx hb hr hlocks hD hP hS rfl dX8_forget_16
  have h := it_n h c1
  refine lv_iload_n hx hb dX8_forget_4 rfl (lv_at hl 1 rfl) ?_
  refine lv_aload_n hx hb dX8_forget_5 rfl (lv_at hl 0 rfl) ?_
  refine va_get (D := G) (ci := 7) (v := .ref h_t_desk) (C := RX8) (T := TX8) (N := 9) hx hb hts hinX8 hown hK hP 0 rfl rfl 0 (by decide) (hta _ mw_358) (fun _ h9 => h9) rfl dX8_forget_6 ?_
  refine va_get (D := G) (ci := 1) (v := .int t_desk_limit) (C := RX1) (T := TX1) (N := 5) hx hb hts hinX1 hown hK hP 1 rfl rfl 3 (by decide) (hta _ mw_479) (fun _ h9 => h9) rfl dX8_forget_9 ?_
  refine lv_icmp_lt (tgt := 17) hx hb dX8_forget_12 (by decide) (fun c2 => ?_) (fun c2 => ?_)
  rotate_left
  · have h := it_n h c2
    refine lv_iconst (v := (-1 : Int32)) hx hb dX8_forget_15 (by decide) ?_
    have h9 := Option.some.inj h
    have e9 : (-1 : Int32) = r0 := congrArg (fun z9 => z9.1) h9
    rw [← e9]
    have e9 : t_desk_limit = w0 := congrArg (fun z9 => z9.2.1) h9
    rw [← e9]
    have e9 : t_desk_tree = w1 := congrArg (fun z9 => z9.2.2.1) h9
    rw [← e9]
    have e9 : t_deeds_now = w2 := congrArg (fun z9 => z9.2.2.2.1) h9
    rw [← e9]
    have e9 : t_deeds_last = w3 := congrArg (fun z9 => z9.2.2.2.2.1) h9
    rw [← e9]
    have e9 : a_t_deeds_desks = w4 := congrArg (fun z9 => z9.2.2.2.2.2.1) h9
    rw [← e9]
    have e9 : d_t_deeds_desks = w5 := congrArg (fun z9 => z9.2.2.2.2.2.2.1) h9
    rw [← e9]
    have e9 : t_deeds_desks_genus = w6 := congrArg (fun z9 => z9.2.2.2.2.2.2.2.1) h9
    rw [← e9]
    have e9 : t_deeds_desks_limit = w7 := congrArg (fun z9 => z9.2.2.2.2.2.2.2.2.1) h9
    rw [← e9]
    have e9 : q_t_deeds_desks = w8 := congrArg (fun z9 => z9.2.2.2.2.2.2.2.2.2.1) h9
    rw [← e9]
    have e9 : t_deeds_desks_size = w9 := congrArg (fun z9 => z9.2.2.2.2.2.2.2.2.2.2.1) h9
    rw [← e9]
    have e9 : t_deeds_desks_tree = w10 := congrArg (fun z9 => z9.2.2.2.2.2.2.2.2.2.2.2) h9
    rw [← e9]
    exact k_iretP hx hb hr hlocks hD hP hS rfl dX8_forget_16
  have h := it_p h c2
  refine lv_aload_n hx hb dX8_forget_17 rfl (lv_at hl 0 rfl) ?_
  refine va_get (D := G) (ci := 7) (v := .ref h_t_desk) (C := RX8) (T := TX8) (N := 9) hx hb hts hinX8 hown hK hP 0 rfl rfl 0 (by decide) (hta _ mw_358) (fun _ h9 => h9) rfl dX8_forget_18 ?_
  refine va_get (D := G) (ci := 1) (v := .int t_desk_limit) (C := RX1) (T := TX1) (N := 5) hx hb hts hinX1 hown hK hP 1 rfl rfl 3 (by decide) (hta _ mw_479) (fun _ h9 => h9) rfl dX8_forget_21 ?_
  refine lv_iconst (v := (3 : Int32)) hx hb dX8_forget_24 (by decide) ?_
  refine lv_icmp_gt (tgt := 31) hx hb dX8_forget_25 (by decide) (fun c3 => ?_) (fun c3 => ?_)
  rotate_left
  · have h := it_n h c3
    refine lv_bipush (v := (-5 : Int32)) hx hb dX8_forget_28 (by decide) ?_
    have h9 := Option.some.inj h
    have e9 : (-5 : Int32) = r0 := congrArg (fun z9 => z9.1) h9
    rw [← e9]
    have e9 : t_desk_limit = w0 := congrArg (fun z9 => z9.2.1) h9
    rw [← e9]
    have e9 : t_desk_tree = w1 := congrArg (fun z9 => z9.2.2.1) h9
    rw [← e9]
    have e9 : t_deeds_now = w2 := congrArg (fun z9 => z9.2.2.2.1) h9
    rw [← e9]
    have e9 : t_deeds_last = w3 := congrArg (fun z9 => z9.2.2.2.2.1) h9
    rw [← e9]
    have e9 : a_t_deeds_desks = w4 := congrArg (fun z9 => z9.2.2.2.2.2.1) h9
    rw [← e9]
    have e9 : d_t_deeds_desks = w5 := congrArg (fun z9 => z9.2.2.2.2.2.2.1) h9
    rw [← e9]
    have e9 : t_deeds_desks_genus = w6 := congrArg (fun z9 => z9.2.2.2.2.2.2.2.1) h9
    rw [← e9]
    have e9 : t_deeds_desks_limit = w7 := congrArg (fun z9 => z9.2.2.2.2.2.2.2.2.1) h9
    rw [← e9]
    have e9 : q_t_deeds_desks = w8 := congrArg (fun z9 => z9.2.2.2.2.2.2.2.2.2.1) h9
    rw [← e9]
    have e9 : t_deeds_desks_size = w9 := congrArg (fun z9 => z9.2.2.2.2.2.2.2.2.2.2.1) h9
    rw [← e9]
    have e9 : t_deeds_desks_tree = w10 := congrArg (fun z9 => z9.2.2.2.2.2.2.2.2.2.2.2) h9
    rw [← e9]
    exact k_iretP hx hb hr hlocks hD hP hS rfl dX8_forget_30
  have h := it_p h c3
  refine lv_aload_n hx hb dX8_forget_31 rfl (lv_at hl 0 rfl) ?_
  refine va_get (D := G) (ci := 7) (v := .ref h_t_desk) (C := RX8) (T := TX8) (N := 9) hx hb hts hinX8 hown hK hP 0 rfl rfl 0 (by decide) (hta _ mw_358) (fun _ h9 => h9) rfl dX8_forget_32 ?_
  refine lv_aload_n hx hb dX8_forget_35 rfl (lv_at hl 0 rfl) ?_
  refine va_get (D := G) (ci := 7) (v := .ref h_t_desk) (C := RX8) (T := TX8) (N := 9) hx hb hts hinX8 hown hK hP 0 rfl rfl 0 (by decide) (hta _ mw_358) (fun _ h9 => h9) rfl dX8_forget_36 ?_
  refine va_get (D := G) (ci := 1) (v := .long t_desk_tree) (C := RX1) (T := TX1) (N := 5) hx hb hts hinX1 hown hK hP 1 rfl rfl 4 (by decide) (hta _ mw_480) (fun _ h9 => h9) rfl dX8_forget_39 ?_
  refine lv_aload_n hx hb dX8_forget_42 rfl (lv_at hl 0 rfl) ?_
  refine va_get (D := G) (ci := 7) (v := .ref h_t_desk) (C := RX8) (T := TX8) (N := 9) hx hb hts hinX8 hown hK hP 0 rfl rfl 0 (by decide) (hta _ mw_358) (fun _ h9 => h9) rfl dX8_forget_43 ?_
  refine va_get (D := G) (ci := 1) (v := .int t_desk_limit) (C := RX1) (T := TX1) (N := 5) hx hb hts hinX1 hown hK hP 1 rfl rfl 3 (by decide) (hta _ mw_479) (fun _ h9 => h9) rfl dX8_forget_46 ?_
  refine lv_iload_n hx hb dX8_forget_49 rfl (lv_at hl 1 rfl) ?_
  obtain ⟨x4, hx4, h⟩ := bd_e h
  try dsimp only at h
  refine k_SlU (n := 3) (As := [.long t_desk_tree, .int t_desk_limit, .int p0]) (rest := [.ref h_t_desk]) hx hb hml hown hts (c_X6_forgetLeaf l G cI cJ cD cH s.heap.size t_desk_tree t_desk_limit p0 x4 hx4) gX8_forget_X6_forgetLeaf rfl rfl rfl (by decide +kernel) ⟨by first | exact Nat.le_of_ble_eq_true rfl | (simp only [headSpec]; omega), by first | exact Nat.le_of_ble_eq_true rfl | (simp only [headSpec]; omega)⟩ hK hP hD hS hA [] (by decide) rfl rfl rfl hl.1 (Nat.le_of_ble_eq_true rfl) dX8_forget_50 ⟨Nat.zero_le _, Nat.zero_le _⟩ (fun hp4 H locs hP hS => ?_)
  refine va_put (D := G) (ci := 1) (v := .long x4) (ty := .long) (C := RX1) (T := TX1) (N := 5) hx hb hts hinX1 tyX1 tyX1_ok nmX1 hown hK hP hD hS 1 rfl rfl 4 (by decide) (hta _ mw_480) (fun _ h9 => h9) rfl (by decide +kernel) rfl rfl (Nat.le_of_ble_eq_true rfl) dX8_forget_53 (fun H locs hP hD hS => ?_)
  have hP : va_P G vwCl [(h_t, .inr (7, [.ref h_t_desk, .ref h_t_imageDesk, .ref h_t_deeds, .ref h_t_numbers, .ref h_t_tape, .ref h_t_reader, .ref h_t_speller, .ref h_t_holders, .int t_imageKept])), (h_t_desk, .inr (1, [.int t_desk_genus, .int t_desk_size, .ref h_t_desk_powers, .int t_desk_limit, .long x4])), (h_t_deeds, .inr (0, [.ref h_t_deeds_desks, .int t_deeds_now, .int t_deeds_last])), (h_t_deeds_desks, .inl (cD, 9, .inr (.inr (.inr (.inr (fun i => some (d_t_deeds_desks i))))))), ((d_t_deeds_desks 0), .inr (1, [.int (t_deeds_desks_genus 0), .int (t_deeds_desks_size 0), .ref (q_t_deeds_desks 0), .int (t_deeds_desks_limit 0), .long (t_deeds_desks_tree 0)])), ((q_t_deeds_desks 0), .inl (cI, 8, .inl (a_t_deeds_desks 0))), ((d_t_deeds_desks 1), .inr (1, [.int (t_deeds_desks_genus 1), .int (t_deeds_desks_size 1), .ref (q_t_deeds_desks 1), .int (t_deeds_desks_limit 1), .long (t_deeds_desks_tree 1)])), ((q_t_deeds_desks 1), .inl (cI, 8, .inl (a_t_deeds_desks 1))), ((d_t_deeds_desks 2), .inr (1, [.int (t_deeds_desks_genus 2), .int (t_deeds_desks_size 2), .ref (q_t_deeds_desks 2), .int (t_deeds_desks_limit 2), .long (t_deeds_desks_tree 2)])), ((q_t_deeds_desks 2), .inl (cI, 8, .inl (a_t_deeds_desks 2))), ((d_t_deeds_desks 3), .inr (1, [.int (t_deeds_desks_genus 3), .int (t_deeds_desks_size 3), .ref (q_t_deeds_desks 3), .int (t_deeds_desks_limit 3), .long (t_deeds_desks_tree 3)])), ((q_t_deeds_desks 3), .inl (cI, 8, .inl (a_t_deeds_desks 3))), ((d_t_deeds_desks 4), .inr (1, [.int (t_deeds_desks_genus 4), .int (t_deeds_desks_size 4), .ref (q_t_deeds_desks 4), .int (t_deeds_desks_limit 4), .long (t_deeds_desks_tree 4)])), ((q_t_deeds_desks 4), .inl (cI, 8, .inl (a_t_deeds_desks 4))), ((d_t_deeds_desks 5), .inr (1, [.int (t_deeds_desks_genus 5), .int (t_deeds_desks_size 5), .ref (q_t_deeds_desks 5), .int (t_deeds_desks_limit 5), .long (t_deeds_desks_tree 5)])), ((q_t_deeds_desks 5), .inl (cI, 8, .inl (a_t_deeds_desks 5))), ((d_t_deeds_desks 6), .inr (1, [.int (t_deeds_desks_genus 6), .int (t_deeds_desks_size 6), .ref (q_t_deeds_desks 6), .int (t_deeds_desks_limit 6), .long (t_deeds_desks_tree 6)])), ((q_t_deeds_desks 6), .inl (cI, 8, .inl (a_t_deeds_desks 6))), ((d_t_deeds_desks 7), .inr (1, [.int (t_deeds_desks_genus 7), .int (t_deeds_desks_size 7), .ref (q_t_deeds_desks 7), .int (t_deeds_desks_limit 7), .long (t_deeds_desks_tree 7)])), ((q_t_deeds_desks 7), .inl (cI, 8, .inl (a_t_deeds_desks 7))), ((d_t_deeds_desks 8), .inr (1, [.int (t_deeds_desks_genus 8), .int (t_deeds_desks_size 8), .ref (q_t_deeds_desks 8), .int (t_deeds_desks_limit 8), .long (t_deeds_desks_tree 8)])), ((q_t_deeds_desks 8), .inl (cI, 8, .inl (a_t_deeds_desks 8))), (h_t_desk_powers, .inl (cI, 8, .inl a_t_desk_powers))] H := hP
  have hD : va_D A [(h_t, .inr (7, [.ref h_t_desk, .ref h_t_imageDesk, .ref h_t_deeds, .ref h_t_numbers, .ref h_t_tape, .ref h_t_reader, .ref h_t_speller, .ref h_t_holders, .int t_imageKept])), (h_t_desk, .inr (1, [.int t_desk_genus, .int t_desk_size, .ref h_t_desk_powers, .int t_desk_limit, .long x4])), (h_t_deeds, .inr (0, [.ref h_t_deeds_desks, .int t_deeds_now, .int t_deeds_last])), (h_t_deeds_desks, .inl (cD, 9, .inr (.inr (.inr (.inr (fun i => some (d_t_deeds_desks i))))))), ((d_t_deeds_desks 0), .inr (1, [.int (t_deeds_desks_genus 0), .int (t_deeds_desks_size 0), .ref (q_t_deeds_desks 0), .int (t_deeds_desks_limit 0), .long (t_deeds_desks_tree 0)])), ((q_t_deeds_desks 0), .inl (cI, 8, .inl (a_t_deeds_desks 0))), ((d_t_deeds_desks 1), .inr (1, [.int (t_deeds_desks_genus 1), .int (t_deeds_desks_size 1), .ref (q_t_deeds_desks 1), .int (t_deeds_desks_limit 1), .long (t_deeds_desks_tree 1)])), ((q_t_deeds_desks 1), .inl (cI, 8, .inl (a_t_deeds_desks 1))), ((d_t_deeds_desks 2), .inr (1, [.int (t_deeds_desks_genus 2), .int (t_deeds_desks_size 2), .ref (q_t_deeds_desks 2), .int (t_deeds_desks_limit 2), .long (t_deeds_desks_tree 2)])), ((q_t_deeds_desks 2), .inl (cI, 8, .inl (a_t_deeds_desks 2))), ((d_t_deeds_desks 3), .inr (1, [.int (t_deeds_desks_genus 3), .int (t_deeds_desks_size 3), .ref (q_t_deeds_desks 3), .int (t_deeds_desks_limit 3), .long (t_deeds_desks_tree 3)])), ((q_t_deeds_desks 3), .inl (cI, 8, .inl (a_t_deeds_desks 3))), ((d_t_deeds_desks 4), .inr (1, [.int (t_deeds_desks_genus 4), .int (t_deeds_desks_size 4), .ref (q_t_deeds_desks 4), .int (t_deeds_desks_limit 4), .long (t_deeds_desks_tree 4)])), ((q_t_deeds_desks 4), .inl (cI, 8, .inl (a_t_deeds_desks 4))), ((d_t_deeds_desks 5), .inr (1, [.int (t_deeds_desks_genus 5), .int (t_deeds_desks_size 5), .ref (q_t_deeds_desks 5), .int (t_deeds_desks_limit 5), .long (t_deeds_desks_tree 5)])), ((q_t_deeds_desks 5), .inl (cI, 8, .inl (a_t_deeds_desks 5))), ((d_t_deeds_desks 6), .inr (1, [.int (t_deeds_desks_genus 6), .int (t_deeds_desks_size 6), .ref (q_t_deeds_desks 6), .int (t_deeds_desks_limit 6), .long (t_deeds_desks_tree 6)])), ((q_t_deeds_desks 6), .inl (cI, 8, .inl (a_t_deeds_desks 6))), ((d_t_deeds_desks 7), .inr (1, [.int (t_deeds_desks_genus 7), .int (t_deeds_desks_size 7), .ref (q_t_deeds_desks 7), .int (t_deeds_desks_limit 7), .long (t_deeds_desks_tree 7)])), ((q_t_deeds_desks 7), .inl (cI, 8, .inl (a_t_deeds_desks 7))), ((d_t_deeds_desks 8), .inr (1, [.int (t_deeds_desks_genus 8), .int (t_deeds_desks_size 8), .ref (q_t_deeds_desks 8), .int (t_deeds_desks_limit 8), .long (t_deeds_desks_tree 8)])), ((q_t_deeds_desks 8), .inl (cI, 8, .inl (a_t_deeds_desks 8))), (h_t_desk_powers, .inl (cI, 8, .inl a_t_desk_powers))] := hD
  refine lv_aload_n hx hb dX8_forget_56 rfl (lv_at hl 0 rfl) ?_
  refine va_get (D := G) (ci := 7) (v := .ref h_t_desk) (C := RX8) (T := TX8) (N := 9) hx hb hts hinX8 hown hK hP 0 rfl rfl 0 (by decide) (hta _ mw_358) (fun _ h9 => h9) rfl dX8_forget_57 ?_
  refine lv_dup hx hb dX8_forget_60 rfl ?_
  refine va_get (D := G) (ci := 1) (v := .int t_desk_limit) (C := RX1) (T := TX1) (N := 5) hx hb hts hinX1 hown hK hP 1 rfl rfl 3 (by decide) (hta _ mw_479) (fun _ h9 => h9) rfl dX8_forget_61 ?_
  refine lv_iconst (v := (1 : Int32)) hx hb dX8_forget_64 (by decide) ?_
  refine lv_isub hx hb dX8_forget_65 ?_
  refine va_put (D := G) (ci := 1) (v := .int (t_desk_limit - (1 : Int32))) (ty := .int) (C := RX1) (T := TX1) (N := 5) hx hb hts hinX1 tyX1 tyX1_ok nmX1 hown hK hP hD hS 1 rfl rfl 3 (by decide) (hta _ mw_479) (fun _ h9 => h9) rfl (by decide +kernel) rfl rfl (Nat.le_of_ble_eq_true rfl) dX8_forget_66 (fun H locs hP hD hS => ?_)
  have hP : va_P G vwCl [(h_t, .inr (7, [.ref h_t_desk, .ref h_t_imageDesk, .ref h_t_deeds, .ref h_t_numbers, .ref h_t_tape, .ref h_t_reader, .ref h_t_speller, .ref h_t_holders, .int t_imageKept])), (h_t_desk, .inr (1, [.int t_desk_genus, .int t_desk_size, .ref h_t_desk_powers, .int (t_desk_limit - (1 : Int32)), .long x4])), (h_t_deeds, .inr (0, [.ref h_t_deeds_desks, .int t_deeds_now, .int t_deeds_last])), (h_t_deeds_desks, .inl (cD, 9, .inr (.inr (.inr (.inr (fun i => some (d_t_deeds_desks i))))))), ((d_t_deeds_desks 0), .inr (1, [.int (t_deeds_desks_genus 0), .int (t_deeds_desks_size 0), .ref (q_t_deeds_desks 0), .int (t_deeds_desks_limit 0), .long (t_deeds_desks_tree 0)])), ((q_t_deeds_desks 0), .inl (cI, 8, .inl (a_t_deeds_desks 0))), ((d_t_deeds_desks 1), .inr (1, [.int (t_deeds_desks_genus 1), .int (t_deeds_desks_size 1), .ref (q_t_deeds_desks 1), .int (t_deeds_desks_limit 1), .long (t_deeds_desks_tree 1)])), ((q_t_deeds_desks 1), .inl (cI, 8, .inl (a_t_deeds_desks 1))), ((d_t_deeds_desks 2), .inr (1, [.int (t_deeds_desks_genus 2), .int (t_deeds_desks_size 2), .ref (q_t_deeds_desks 2), .int (t_deeds_desks_limit 2), .long (t_deeds_desks_tree 2)])), ((q_t_deeds_desks 2), .inl (cI, 8, .inl (a_t_deeds_desks 2))), ((d_t_deeds_desks 3), .inr (1, [.int (t_deeds_desks_genus 3), .int (t_deeds_desks_size 3), .ref (q_t_deeds_desks 3), .int (t_deeds_desks_limit 3), .long (t_deeds_desks_tree 3)])), ((q_t_deeds_desks 3), .inl (cI, 8, .inl (a_t_deeds_desks 3))), ((d_t_deeds_desks 4), .inr (1, [.int (t_deeds_desks_genus 4), .int (t_deeds_desks_size 4), .ref (q_t_deeds_desks 4), .int (t_deeds_desks_limit 4), .long (t_deeds_desks_tree 4)])), ((q_t_deeds_desks 4), .inl (cI, 8, .inl (a_t_deeds_desks 4))), ((d_t_deeds_desks 5), .inr (1, [.int (t_deeds_desks_genus 5), .int (t_deeds_desks_size 5), .ref (q_t_deeds_desks 5), .int (t_deeds_desks_limit 5), .long (t_deeds_desks_tree 5)])), ((q_t_deeds_desks 5), .inl (cI, 8, .inl (a_t_deeds_desks 5))), ((d_t_deeds_desks 6), .inr (1, [.int (t_deeds_desks_genus 6), .int (t_deeds_desks_size 6), .ref (q_t_deeds_desks 6), .int (t_deeds_desks_limit 6), .long (t_deeds_desks_tree 6)])), ((q_t_deeds_desks 6), .inl (cI, 8, .inl (a_t_deeds_desks 6))), ((d_t_deeds_desks 7), .inr (1, [.int (t_deeds_desks_genus 7), .int (t_deeds_desks_size 7), .ref (q_t_deeds_desks 7), .int (t_deeds_desks_limit 7), .long (t_deeds_desks_tree 7)])), ((q_t_deeds_desks 7), .inl (cI, 8, .inl (a_t_deeds_desks 7))), ((d_t_deeds_desks 8), .inr (1, [.int (t_deeds_desks_genus 8), .int (t_deeds_desks_size 8), .ref (q_t_deeds_desks 8), .int (t_deeds_desks_limit 8), .long (t_deeds_desks_tree 8)])), ((q_t_deeds_desks 8), .inl (cI, 8, .inl (a_t_deeds_desks 8))), (h_t_desk_powers, .inl (cI, 8, .inl a_t_desk_powers))] H := hP
  have hD : va_D A [(h_t, .inr (7, [.ref h_t_desk, .ref h_t_imageDesk, .ref h_t_deeds, .ref h_t_numbers, .ref h_t_tape, .ref h_t_reader, .ref h_t_speller, .ref h_t_holders, .int t_imageKept])), (h_t_desk, .inr (1, [.int t_desk_genus, .int t_desk_size, .ref h_t_desk_powers, .int (t_desk_limit - (1 : Int32)), .long x4])), (h_t_deeds, .inr (0, [.ref h_t_deeds_desks, .int t_deeds_now, .int t_deeds_last])), (h_t_deeds_desks, .inl (cD, 9, .inr (.inr (.inr (.inr (fun i => some (d_t_deeds_desks i))))))), ((d_t_deeds_desks 0), .inr (1, [.int (t_deeds_desks_genus 0), .int (t_deeds_desks_size 0), .ref (q_t_deeds_desks 0), .int (t_deeds_desks_limit 0), .long (t_deeds_desks_tree 0)])), ((q_t_deeds_desks 0), .inl (cI, 8, .inl (a_t_deeds_desks 0))), ((d_t_deeds_desks 1), .inr (1, [.int (t_deeds_desks_genus 1), .int (t_deeds_desks_size 1), .ref (q_t_deeds_desks 1), .int (t_deeds_desks_limit 1), .long (t_deeds_desks_tree 1)])), ((q_t_deeds_desks 1), .inl (cI, 8, .inl (a_t_deeds_desks 1))), ((d_t_deeds_desks 2), .inr (1, [.int (t_deeds_desks_genus 2), .int (t_deeds_desks_size 2), .ref (q_t_deeds_desks 2), .int (t_deeds_desks_limit 2), .long (t_deeds_desks_tree 2)])), ((q_t_deeds_desks 2), .inl (cI, 8, .inl (a_t_deeds_desks 2))), ((d_t_deeds_desks 3), .inr (1, [.int (t_deeds_desks_genus 3), .int (t_deeds_desks_size 3), .ref (q_t_deeds_desks 3), .int (t_deeds_desks_limit 3), .long (t_deeds_desks_tree 3)])), ((q_t_deeds_desks 3), .inl (cI, 8, .inl (a_t_deeds_desks 3))), ((d_t_deeds_desks 4), .inr (1, [.int (t_deeds_desks_genus 4), .int (t_deeds_desks_size 4), .ref (q_t_deeds_desks 4), .int (t_deeds_desks_limit 4), .long (t_deeds_desks_tree 4)])), ((q_t_deeds_desks 4), .inl (cI, 8, .inl (a_t_deeds_desks 4))), ((d_t_deeds_desks 5), .inr (1, [.int (t_deeds_desks_genus 5), .int (t_deeds_desks_size 5), .ref (q_t_deeds_desks 5), .int (t_deeds_desks_limit 5), .long (t_deeds_desks_tree 5)])), ((q_t_deeds_desks 5), .inl (cI, 8, .inl (a_t_deeds_desks 5))), ((d_t_deeds_desks 6), .inr (1, [.int (t_deeds_desks_genus 6), .int (t_deeds_desks_size 6), .ref (q_t_deeds_desks 6), .int (t_deeds_desks_limit 6), .long (t_deeds_desks_tree 6)])), ((q_t_deeds_desks 6), .inl (cI, 8, .inl (a_t_deeds_desks 6))), ((d_t_deeds_desks 7), .inr (1, [.int (t_deeds_desks_genus 7), .int (t_deeds_desks_size 7), .ref (q_t_deeds_desks 7), .int (t_deeds_desks_limit 7), .long (t_deeds_desks_tree 7)])), ((q_t_deeds_desks 7), .inl (cI, 8, .inl (a_t_deeds_desks 7))), ((d_t_deeds_desks 8), .inr (1, [.int (t_deeds_desks_genus 8), .int (t_deeds_desks_size 8), .ref (q_t_deeds_desks 8), .int (t_deeds_desks_limit 8), .long (t_deeds_desks_tree 8)])), ((q_t_deeds_desks 8), .inl (cI, 8, .inl (a_t_deeds_desks 8))), (h_t_desk_powers, .inl (cI, 8, .inl a_t_desk_powers))] := hD
  refine lv_aload_n hx hb dX8_forget_69 rfl (lv_at hl 0 rfl) ?_
  refine va_get (D := G) (ci := 7) (v := .ref h_t_deeds) (C := RX8) (T := TX8) (N := 9) hx hb hts hinX8 hown hK hP 0 rfl rfl 2 (by decide) (hta _ mw_362) (fun _ h9 => h9) rfl dX8_forget_70 ?_
  refine lv_aload_n hx hb dX8_forget_73 rfl (lv_at hl 0 rfl) ?_
  refine va_get (D := G) (ci := 7) (v := .ref h_t_desk) (C := RX8) (T := TX8) (N := 9) hx hb hts hinX8 hown hK hP 0 rfl rfl 0 (by decide) (hta _ mw_358) (fun _ h9 => h9) rfl dX8_forget_74 ?_
  obtain ⟨x5, hx5, h⟩ := bd_e h
  try dsimp only at h
  refine k_VvPM (n := 1) (As := [.ref h_t_desk]) (rest := []) hx hb hml hown hts (c_X0_settle l G cI cJ cD cH H.size h_t_deeds h_t_desk h_t_deeds_desks h_t_desk_powers d_t_deeds_desks q_t_deeds_desks a_t_deeds_desks t_deeds_desks_genus t_deeds_desks_size t_deeds_desks_limit t_deeds_desks_tree t_deeds_now t_deeds_last t_desk_genus t_desk_size (t_desk_limit - (1 : Int32)) x4 a_t_desk_powers (x5.1) (x5.2.1) (x5.2.2.1) (x5.2.2.2.1) (x5.2.2.2.2.1) (x5.2.2.2.2.2.1) (x5.2.2.2.2.2.2.1) (x5.2.2.2.2.2.2.2.1) (x5.2.2.2.2.2.2.2.2) hx5) gX8_forget_X0_settle rfl rfl rfl (by decide +kernel) ⟨by first | exact Nat.le_of_ble_eq_true rfl | (simp only [headSpec]; omega), by first | exact Nat.le_of_ble_eq_true rfl | (simp only [headSpec]; omega)⟩ hK hP hD hS hA [2, 1, 3, 4, 5, 6, 7, 8, 9, 10, 11, 12, 13, 14, 15, 16, 17, 18, 19, 20, 21, 22] (by decide) rfl rfl (ci := 0) rfl rfl rfl rfl rfl hl.1 (Nat.le_of_ble_eq_true rfl) dX8_forget_77 ⟨Nat.zero_le _, Nat.zero_le _⟩ [(h_t, .inr (7, [.ref h_t_desk, .ref h_t_imageDesk, .ref h_t_deeds, .ref h_t_numbers, .ref h_t_tape, .ref h_t_reader, .ref h_t_speller, .ref h_t_holders, .int t_imageKept])), (h_t_desk, .inr (1, [.int t_desk_genus, .int t_desk_size, .ref h_t_desk_powers, .int (t_desk_limit - (1 : Int32)), .long x4])), (h_t_deeds, .inr (0, [.ref h_t_deeds_desks, .int (x5.1), .int (x5.2.1)])), (h_t_deeds_desks, .inl (cD, 9, .inr (.inr (.inr (.inr (fun i => some ((x5.2.2.2.1) i))))))), (((x5.2.2.2.1) 0), .inr (1, [.int ((x5.2.2.2.2.1) 0), .int ((x5.2.2.2.2.2.2.2.1) 0), .ref ((x5.2.2.2.2.2.2.1) 0), .int ((x5.2.2.2.2.2.1) 0), .long ((x5.2.2.2.2.2.2.2.2) 0)])), (((x5.2.2.2.2.2.2.1) 0), .inl (cI, 8, .inl ((x5.2.2.1) 0))), (((x5.2.2.2.1) 1), .inr (1, [.int ((x5.2.2.2.2.1) 1), .int ((x5.2.2.2.2.2.2.2.1) 1), .ref ((x5.2.2.2.2.2.2.1) 1), .int ((x5.2.2.2.2.2.1) 1), .long ((x5.2.2.2.2.2.2.2.2) 1)])), (((x5.2.2.2.2.2.2.1) 1), .inl (cI, 8, .inl ((x5.2.2.1) 1))), (((x5.2.2.2.1) 2), .inr (1, [.int ((x5.2.2.2.2.1) 2), .int ((x5.2.2.2.2.2.2.2.1) 2), .ref ((x5.2.2.2.2.2.2.1) 2), .int ((x5.2.2.2.2.2.1) 2), .long ((x5.2.2.2.2.2.2.2.2) 2)])), (((x5.2.2.2.2.2.2.1) 2), .inl (cI, 8, .inl ((x5.2.2.1) 2))), (((x5.2.2.2.1) 3), .inr (1, [.int ((x5.2.2.2.2.1) 3), .int ((x5.2.2.2.2.2.2.2.1) 3), .ref ((x5.2.2.2.2.2.2.1) 3), .int ((x5.2.2.2.2.2.1) 3), .long ((x5.2.2.2.2.2.2.2.2) 3)])), (((x5.2.2.2.2.2.2.1) 3), .inl (cI, 8, .inl ((x5.2.2.1) 3))), (((x5.2.2.2.1) 4), .inr (1, [.int ((x5.2.2.2.2.1) 4), .int ((x5.2.2.2.2.2.2.2.1) 4), .ref ((x5.2.2.2.2.2.2.1) 4), .int ((x5.2.2.2.2.2.1) 4), .long ((x5.2.2.2.2.2.2.2.2) 4)])), (((x5.2.2.2.2.2.2.1) 4), .inl (cI, 8, .inl ((x5.2.2.1) 4))), (((x5.2.2.2.1) 5), .inr (1, [.int ((x5.2.2.2.2.1) 5), .int ((x5.2.2.2.2.2.2.2.1) 5), .ref ((x5.2.2.2.2.2.2.1) 5), .int ((x5.2.2.2.2.2.1) 5), .long ((x5.2.2.2.2.2.2.2.2) 5)])), (((x5.2.2.2.2.2.2.1) 5), .inl (cI, 8, .inl ((x5.2.2.1) 5))), (((x5.2.2.2.1) 6), .inr (1, [.int ((x5.2.2.2.2.1) 6), .int ((x5.2.2.2.2.2.2.2.1) 6), .ref ((x5.2.2.2.2.2.2.1) 6), .int ((x5.2.2.2.2.2.1) 6), .long ((x5.2.2.2.2.2.2.2.2) 6)])), (((x5.2.2.2.2.2.2.1) 6), .inl (cI, 8, .inl ((x5.2.2.1) 6))), (((x5.2.2.2.1) 7), .inr (1, [.int ((x5.2.2.2.2.1) 7), .int ((x5.2.2.2.2.2.2.2.1) 7), .ref ((x5.2.2.2.2.2.2.1) 7), .int ((x5.2.2.2.2.2.1) 7), .long ((x5.2.2.2.2.2.2.2.2) 7)])), (((x5.2.2.2.2.2.2.1) 7), .inl (cI, 8, .inl ((x5.2.2.1) 7))), (((x5.2.2.2.1) 8), .inr (1, [.int ((x5.2.2.2.2.1) 8), .int ((x5.2.2.2.2.2.2.2.1) 8), .ref ((x5.2.2.2.2.2.2.1) 8), .int ((x5.2.2.2.2.2.1) 8), .long ((x5.2.2.2.2.2.2.2.2) 8)])), (((x5.2.2.2.2.2.2.1) 8), .inl (cI, 8, .inl ((x5.2.2.1) 8))), (h_t_desk_powers, .inl (cI, 8, .inl a_t_desk_powers))] [0, 2, 1, 3, 4, 5, 6, 7, 8, 9, 10, 11, 12, 13, 14, 15, 16, 17, 18, 19, 20, 21, 22] 22 (by decide +kernel) rfl rfl (fun hp5 H locs hP hD hS => ?_)
  refine lv_aload_n hx hb dX8_forget_80 rfl (lv_at hl 0 rfl) ?_
  refine va_get (D := G) (ci := 7) (v := .ref h_t_desk) (C := RX8) (T := TX8) (N := 9) hx hb hts hinX8 hown hK hP 0 rfl rfl 0 (by decide) (hta _ mw_358) (fun _ h9 => h9) rfl dX8_forget_81 ?_
  refine va_get (D := G) (ci := 1) (v := .long x4) (C := RX1) (T := TX1) (N := 5) hx hb hts hinX1 hown hK hP 1 rfl rfl 4 (by decide) (hta _ mw_480) (fun _ h9 => h9) rfl dX8_forget_84 ?_
  obtain ⟨x6, hx6, h⟩ := bd_e h
  try dsimp only at h
  refine k_SiU (n := 1) (As := [.long x4]) (rest := []) hx hb hml hown hts (c_X6_sizeOf l G cI cJ cD cH H.size x4 x6 hx6) gX8_forget_X6_sizeOf rfl rfl rfl (by decide +kernel) ⟨by first | exact Nat.le_of_ble_eq_true rfl | (simp only [headSpec]; omega), by first | exact Nat.le_of_ble_eq_true rfl | (simp only [headSpec]; omega)⟩ hK hP hD hS hA [] (by decide) rfl rfl rfl hl.1 (Nat.le_of_ble_eq_true rfl) dX8_forget_87 ⟨Nat.zero_le _, Nat.zero_le _⟩ (fun hp6 H locs hP hS => ?_)
  have h9 := Option.some.inj h
  have e9 : x6 = r0 := congrArg (fun z9 => z9.1) h9
  rw [← e9]
  have e9 : (t_desk_limit - (1 : Int32)) = w0 := congrArg (fun z9 => z9.2.1) h9
  rw [← e9]
  have e9 : x4 = w1 := congrArg (fun z9 => z9.2.2.1) h9
  rw [← e9]
  have e9 : (x5.1) = w2 := congrArg (fun z9 => z9.2.2.2.1) h9
  rw [← e9]
  have e9 : (x5.2.1) = w3 := congrArg (fun z9 => z9.2.2.2.2.1) h9
  rw [← e9]
  have e9 : (x5.2.2.1) = w4 := congrArg (fun z9 => z9.2.2.2.2.2.1) h9
  rw [← e9]
  have e9 : (x5.2.2.2.1) = w5 := congrArg (fun z9 => z9.2.2.2.2.2.2.1) h9
  rw [← e9]
  have e9 : (x5.2.2.2.2.1) = w6 := congrArg (fun z9 => z9.2.2.2.2.2.2.2.1) h9
  rw [← e9]
  have e9 : (x5.2.2.2.2.2.1) = w7 := congrArg (fun z9 => z9.2.2.2.2.2.2.2.2.1) h9
  rw [← e9]
  have e9 : (x5.2.2.2.2.2.2.1) = w8 := congrArg (fun z9 => z9.2.2.2.2.2.2.2.2.2.1) h9
  rw [← e9]
  have e9 : (x5.2.2.2.2.2.2.2.1) = w9 := congrArg (fun z9 => z9.2.2.2.2.2.2.2.2.2.2.1) h9
  rw [← e9]
  have e9 : (x5.2.2.2.2.2.2.2.2) = w10 := congrArg (fun z9 => z9.2.2.2.2.2.2.2.2.2.2.2) h9
  rw [← e9]
  exact k_iretP hx hb hr hlocks hD hP hS rfl dX8_forget_90

/-! X8_numberOfNode -/
set_option maxHeartbeats 4000000 in
set_option maxRecDepth 100000 in
theorem tK_X8_numberOfNode_107_128 {l : Launch} {G : va_G} {cI cJ cD cH : ClassId} {h_t : Nat} {h_t_desk : Nat} {h_t_numbers : Nat} {h_t_desk_powers : Nat} {h_t_numbers_keys : Nat} {h_t_numbers_aboves : Nat} {h_t_imageDesk : Nat} {h_t_deeds : Nat} {h_t_tape : Nat} {h_t_reader : Nat} {h_t_speller : Nat} {h_t_holders : Nat} {h_t_numbers_rounds : Nat} {t_imageKept : Int32} {t_desk_genus : Int32} {t_desk_size : Int32} {t_desk_limit : Int32} {t_desk_tree : Int64} {t_numbers_round : Int32} {a_t_desk_powers : Nat → Int32} {a_t_numbers_keys : Nat → Int64} {a_t_numbers_aboves : Nat → Int64} {p0 : Int32} {r0 : Int64} {w0 : Nat → Int64} {w1 : Nat → Int64} {w2 : Int32} {w3 : Int32} {w4 : Int64} {p : Program} {e : Env} {s : State} {m : MethodId} {below : List Frame} {meth : Method} {c : Code} {A : Nat → Prop} (hx : p.tables.exec = Jvm.exec) (hb : c.code = cX8_numberOfNode) (hr : meth.sig.returnType = (some .long)) (hml : c.maxLocals = 6) (hts : ∀ w ∈ wsX8_numberOfNode, w.before ([.ref h_t, .int p0] : List Value).toArray s = true) (hown : s.vm.findClass RX8 = some m.cls) (hlocks : meth.locks = false) (hK : va_K G vwCl (k_T cI cJ cD cH) s) (hA : ∀ q : Nat, s.heap.size ≤ q → A q) : ∀  (vK107_128_0 : Int32) (vK107_128_1 : Int32) (vK107_128_2 : Int64) (H : Heap) (locs : List Loc) (ls : Array Slot), va_P G vwCl [(h_t, .inr (7, [.ref h_t_desk, .ref h_t_imageDesk, .ref h_t_deeds, .ref h_t_numbers, .ref h_t_tape, .ref h_t_reader, .ref h_t_speller, .ref h_t_holders, .int t_imageKept])), (h_t_desk, .inr (1, [.int t_desk_genus, .int t_desk_size, .ref h_t_desk_powers, .int t_desk_limit, .long t_desk_tree])), (h_t_numbers, .inr (3, [.ref h_t_numbers_keys, .ref h_t_numbers_aboves, .ref h_t_numbers_rounds, .int t_numbers_round, .int vK107_128_0, .int vK107_128_1, .long vK107_128_2])), (h_t_desk_powers, .inl (cI, 8, .inl a_t_desk_powers)), (h_t_numbers_keys, .inl (cJ, 1024, .inr (.inl a_t_numbers_keys))), (h_t_numbers_aboves, .inl (cJ, 1024, .inr (.inl a_t_numbers_aboves)))] H → va_D A [(h_t, .inr (7, [.ref h_t_desk, .ref h_t_imageDesk, .ref h_t_deeds, .ref h_t_numbers, .ref h_t_tape, .ref h_t_reader, .ref h_t_speller, .ref h_t_holders, .int t_imageKept])), (h_t_desk, .inr (1, [.int t_desk_genus, .int t_desk_size, .ref h_t_desk_powers, .int t_desk_limit, .long t_desk_tree])), (h_t_numbers, .inr (3, [.ref h_t_numbers_keys, .ref h_t_numbers_aboves, .ref h_t_numbers_rounds, .int t_numbers_round, .int vK107_128_0, .int vK107_128_1, .long vK107_128_2])), (h_t_desk_powers, .inl (cI, 8, .inl a_t_desk_powers)), (h_t_numbers_keys, .inl (cJ, 1024, .inr (.inl a_t_numbers_keys))), (h_t_numbers_aboves, .inl (cJ, 1024, .inr (.inl a_t_numbers_aboves)))] → va_S A s.heap H locs → lv_has ls 6 [(0, .ref h_t)] → K_X8_numberOfNode_107_128 a_t_numbers_keys a_t_numbers_aboves vK107_128_0 vK107_128_1 vK107_128_2 = some (r0, w0, w1, w2, w3, w4) → W p l e (headSpec wsX8_numberOfNode ({ frames := 24, cells := 0, slots := 0, locals := 701 })).room s m ([.ref h_t, .int p0] : List Value).toArray below meth c H locs 0 0 (MQ below (va_Ql (fun r (_ : Unit) => r = r0 ∧ True) (fun _ t => va_P G vwCl [(h_t, .inr (7, [.ref h_t_desk, .ref h_t_imageDesk, .ref h_t_deeds, .ref h_t_numbers, .ref h_t_tape, .ref h_t_reader, .ref h_t_speller, .ref h_t_holders, .int t_imageKept])), (h_t_desk, .inr (1, [.int t_desk_genus, .int t_desk_size, .ref h_t_desk_powers, .int t_desk_limit, .long t_desk_tree])), (h_t_numbers, .inr (3, [.ref h_t_numbers_keys, .ref h_t_numbers_aboves, .ref h_t_numbers_rounds, .int t_numbers_round, .int w2, .int w3, .long w4])), (h_t_desk_powers, .inl (cI, 8, .inl a_t_desk_powers)), (h_t_numbers_keys, .inl (cJ, 1024, .inr (.inl w0))), (h_t_numbers_aboves, .inl (cJ, 1024, .inr (.inl w1)))] t.heap) A) ([.ref h_t, .int p0] : List Value).toArray s 0 0 A) (F0 m 128 ls []) := by
  have hta : ∀ w ∈ wA, w.before ([.ref h_t, .int p0] : List Value).toArray s = true := hta_of hts
  have hinX1 : ∀ w ∈ wsX10, w ∈ wsX8_numberOfNode := hin_of in_X1
  have hinX8 : ∀ w ∈ wsX80, w ∈ wsX8_numberOfNode := hin_of in_X8
  intro vK107_128_0 vK107_128_1 vK107_128_2 H locs ls hP hD hS hl h
  unfold K_X8_numberOfNode_107_128 at h
  refine lv_aload_n hx hb dX8_numberOfNode_128 rfl (lv_at hl 0 rfl) ?_
  refine va_get (D := G) (ci := 7) (v := .ref h_t_numbers) (C := RX8) (T := TX8) (N := 9) hx hb hts hinX8 hown hK hP 0 rfl rfl 3 (by decide) (hta _ mw_365) (fun _ h9 => h9) rfl dX8_numberOfNode_129 ?_
  refine lv_aload_n hx hb dX8_numberOfNode_132 rfl (lv_at hl 0 rfl) ?_
  refine va_get (D := G) (ci := 7) (v := .ref h_t_numbers) (C := RX8) (T := TX8) (N := 9) hx hb hts hinX8 hown hK hP 0 rfl rfl 3 (by decide) (hta _ mw_365) (fun _ h9 => h9) rfl dX8_numberOfNode_133 ?_
  refine lv_iconst (v := (0 : Int32)) hx hb dX8_numberOfNode_136 (by decide) ?_
  obtain ⟨x5, hx5, h⟩ := bd_e h
  try dsimp only at h
  refine k_VlU (n := 1) (As := [.int (0 : Int32)]) (rest := [.ref h_t_numbers]) hx hb hml hown hts (c_X3_keyFor l G cI cJ cD cH H.size h_t_numbers h_t_numbers_keys h_t_numbers_aboves h_t_numbers_rounds t_numbers_round vK107_128_0 vK107_128_1 vK107_128_2 (0 : Int32) x5 hx5) gX8_numberOfNode_X3_keyFor rfl rfl rfl (by decide +kernel) ⟨by first | exact Nat.le_of_ble_eq_true rfl | (simp only [headSpec]; omega), by first | exact Nat.le_of_ble_eq_true rfl | (simp only [headSpec]; omega)⟩ hK hP hD hS hA [2] (by decide) rfl (ci := 3) rfl rfl rfl rfl rfl hl.1 (Nat.le_of_ble_eq_true rfl) dX8_numberOfNode_137 ⟨Nat.zero_le _, Nat.zero_le _⟩ (fun hp5 H locs hP hS => ?_)
  obtain ⟨x6, hx6, h⟩ := bd_e h
  try dsimp only at h
  refine k_VlM (n := 1) (As := [.long x5]) (rest := []) hx hb hml hown hts (c_X3_aboveOf l G cI cJ cD cH H.size h_t_numbers h_t_numbers_keys h_t_numbers_aboves h_t_numbers_rounds t_numbers_round vK107_128_0 vK107_128_1 vK107_128_2 a_t_numbers_keys a_t_numbers_aboves x5 (x6.1) (x6.2.1) (x6.2.2) hx6) gX8_numberOfNode_X3_aboveOf rfl rfl rfl (by decide +kernel) ⟨by first | exact Nat.le_of_ble_eq_true rfl | (simp only [headSpec]; omega), by first | exact Nat.le_of_ble_eq_true rfl | (simp only [headSpec]; omega)⟩ hK hP hD hS hA [2, 4, 5] (by decide) rfl rfl (ci := 3) rfl rfl rfl rfl rfl hl.1 (Nat.le_of_ble_eq_true rfl) dX8_numberOfNode_140 ⟨Nat.zero_le _, Nat.zero_le _⟩ [(h_t, .inr (7, [.ref h_t_desk, .ref h_t_imageDesk, .ref h_t_deeds, .ref h_t_numbers, .ref h_t_tape, .ref h_t_reader, .ref h_t_speller, .ref h_t_holders, .int t_imageKept])), (h_t_desk, .inr (1, [.int t_desk_genus, .int t_desk_size, .ref h_t_desk_powers, .int t_desk_limit, .long t_desk_tree])), (h_t_numbers, .inr (3, [.ref h_t_numbers_keys, .ref h_t_numbers_aboves, .ref h_t_numbers_rounds, .int t_numbers_round, .int vK107_128_0, .int vK107_128_1, .long vK107_128_2])), (h_t_desk_powers, .inl (cI, 8, .inl a_t_desk_powers)), (h_t_numbers_keys, .inl (cJ, 1024, .inr (.inl (x6.2.1)))), (h_t_numbers_aboves, .inl (cJ, 1024, .inr (.inl (x6.2.2))))] [0, 0, 1, 0, 2, 3] 3 (by decide +kernel) rfl rfl rfl (fun hp6 H locs hP hD hS => ?_)
  have h9 := Option.some.inj h
  have e9 : (x6.1) = r0 := congrArg (fun z9 => z9.1) h9
  rw [← e9]
  have e9 : (x6.2.1) = w0 := congrArg (fun z9 => z9.2.1) h9
  rw [← e9]
  have e9 : (x6.2.2) = w1 := congrArg (fun z9 => z9.2.2.1) h9
  rw [← e9]
  have e9 : vK107_128_0 = w2 := congrArg (fun z9 => z9.2.2.2.1) h9
  rw [← e9]
  have e9 : vK107_128_1 = w3 := congrArg (fun z9 => z9.2.2.2.2.1) h9
  rw [← e9]
  have e9 : vK107_128_2 = w4 := congrArg (fun z9 => z9.2.2.2.2.2) h9
  rw [← e9]
  exact k_lret hx hb hr hlocks hP hS rfl dX8_numberOfNode_143
set_option maxHeartbeats 4000000 in
set_option maxRecDepth 100000 in
theorem tK_X8_numberOfNode_61_104 {l : Launch} {G : va_G} {cI cJ cD cH : ClassId} {h_t : Nat} {h_t_desk : Nat} {h_t_numbers : Nat} {h_t_desk_powers : Nat} {h_t_numbers_keys : Nat} {h_t_numbers_aboves : Nat} {h_t_imageDesk : Nat} {h_t_deeds : Nat} {h_t_tape : Nat} {h_t_reader : Nat} {h_t_speller : Nat} {h_t_holders : Nat} {h_t_numbers_rounds : Nat} {t_imageKept : Int32} {t_desk_genus : Int32} {t_desk_size : Int32} {t_desk_limit : Int32} {t_desk_tree : Int64} {t_numbers_round : Int32} {a_t_desk_powers : Nat → Int32} {a_t_numbers_keys : Nat → Int64} {a_t_numbers_aboves : Nat → Int64} {p0 : Int32} {r0 : Int64} {w0 : Nat → Int64} {w1 : Nat → Int64} {w2 : Int32} {w3 : Int32} {w4 : Int64} {vJ51_1 : Int32} {p : Program} {e : Env} {s : State} {m : MethodId} {below : List Frame} {meth : Method} {c : Code} {A : Nat → Prop} (hx : p.tables.exec = Jvm.exec) (hb : c.code = cX8_numberOfNode) (hr : meth.sig.returnType = (some .long)) (hml : c.maxLocals = 6) (hts : ∀ w ∈ wsX8_numberOfNode, w.before ([.ref h_t, .int p0] : List Value).toArray s = true) (hown : s.vm.findClass RX8 = some m.cls) (hlocks : meth.locks = false) (hK : va_K G vwCl (k_T cI cJ cD cH) s) (hA : ∀ q : Nat, s.heap.size ≤ q → A q) : ∀  (vK61_104_0 : Int32) (vK61_104_1 : Int32) (vK61_104_2 : Int64) (H : Heap) (locs : List Loc) (ls : Array Slot), va_P G vwCl [(h_t, .inr (7, [.ref h_t_desk, .ref h_t_imageDesk, .ref h_t_deeds, .ref h_t_numbers, .ref h_t_tape, .ref h_t_reader, .ref h_t_speller, .ref h_t_holders, .int t_imageKept])), (h_t_desk, .inr (1, [.int t_desk_genus, .int t_desk_size, .ref h_t_desk_powers, .int t_desk_limit, .long t_desk_tree])), (h_t_numbers, .inr (3, [.ref h_t_numbers_keys, .ref h_t_numbers_aboves, .ref h_t_numbers_rounds, .int t_numbers_round, .int vK61_104_0, .int vK61_104_1, .long vK61_104_2])), (h_t_desk_powers, .inl (cI, 8, .inl a_t_desk_powers)), (h_t_numbers_keys, .inl (cJ, 1024, .inr (.inl a_t_numbers_keys))), (h_t_numbers_aboves, .inl (cJ, 1024, .inr (.inl a_t_numbers_aboves)))] H → va_D A [(h_t, .inr (7, [.ref h_t_desk, .ref h_t_imageDesk, .ref h_t_deeds, .ref h_t_numbers, .ref h_t_tape, .ref h_t_reader, .ref h_t_speller, .ref h_t_holders, .int t_imageKept])), (h_t_desk, .inr (1, [.int t_desk_genus, .int t_desk_size, .ref h_t_desk_powers, .int t_desk_limit, .long t_desk_tree])), (h_t_numbers, .inr (3, [.ref h_t_numbers_keys, .ref h_t_numbers_aboves, .ref h_t_numbers_rounds, .int t_numbers_round, .int vK61_104_0, .int vK61_104_1, .long vK61_104_2])), (h_t_desk_powers, .inl (cI, 8, .inl a_t_desk_powers)), (h_t_numbers_keys, .inl (cJ, 1024, .inr (.inl a_t_numbers_keys))), (h_t_numbers_aboves, .inl (cJ, 1024, .inr (.inl a_t_numbers_aboves)))] → va_S A s.heap H locs → lv_has ls 6 [(0, .ref h_t), (4, .int vJ51_1)] → K_X8_numberOfNode_61_104 a_t_numbers_keys a_t_numbers_aboves vJ51_1 vK61_104_0 vK61_104_1 vK61_104_2 = some (r0, w0, w1, w2, w3, w4) → W p l e (headSpec wsX8_numberOfNode ({ frames := 24, cells := 0, slots := 0, locals := 701 })).room s m ([.ref h_t, .int p0] : List Value).toArray below meth c H locs 0 0 (MQ below (va_Ql (fun r (_ : Unit) => r = r0 ∧ True) (fun _ t => va_P G vwCl [(h_t, .inr (7, [.ref h_t_desk, .ref h_t_imageDesk, .ref h_t_deeds, .ref h_t_numbers, .ref h_t_tape, .ref h_t_reader, .ref h_t_speller, .ref h_t_holders, .int t_imageKept])), (h_t_desk, .inr (1, [.int t_desk_genus, .int t_desk_size, .ref h_t_desk_powers, .int t_desk_limit, .long t_desk_tree])), (h_t_numbers, .inr (3, [.ref h_t_numbers_keys, .ref h_t_numbers_aboves, .ref h_t_numbers_rounds, .int t_numbers_round, .int w2, .int w3, .long w4])), (h_t_desk_powers, .inl (cI, 8, .inl a_t_desk_powers)), (h_t_numbers_keys, .inl (cJ, 1024, .inr (.inl w0))), (h_t_numbers_aboves, .inl (cJ, 1024, .inr (.inl w1)))] t.heap) A) ([.ref h_t, .int p0] : List Value).toArray s 0 0 A) (F0 m 104 ls []) := by
  have hta : ∀ w ∈ wA, w.before ([.ref h_t, .int p0] : List Value).toArray s = true := hta_of hts
  have hinX1 : ∀ w ∈ wsX10, w ∈ wsX8_numberOfNode := hin_of in_X1
  have hinX8 : ∀ w ∈ wsX80, w ∈ wsX8_numberOfNode := hin_of in_X8
  intro vK61_104_0 vK61_104_1 vK61_104_2 H locs ls hP hD hS hl h
  unfold K_X8_numberOfNode_61_104 at h
  refine lv_iconst (v := (0 : Int32)) hx hb dX8_numberOfNode_104 (by decide) ?_
  refine lv_istore (lv' := [(5, .int (0 : Int32)), (0, .ref h_t), (4, .int vJ51_1)]) hx hb dX8_numberOfNode_105 hl (by decide) rfl (fun ls hl => ?_)
  have hL107 : ∀ (n107 : Nat) (vL107_0 : Int32) (vL107_1 : Int32) (vL107_2 : Int64) (vL107_3 : Int32) (H : Heap) (locs : List Loc) (ls : Array Slot), va_P G vwCl [(h_t, .inr (7, [.ref h_t_desk, .ref h_t_imageDesk, .ref h_t_deeds, .ref h_t_numbers, .ref h_t_tape, .ref h_t_reader, .ref h_t_speller, .ref h_t_holders, .int t_imageKept])), (h_t_desk, .inr (1, [.int t_desk_genus, .int t_desk_size, .ref h_t_desk_powers, .int t_desk_limit, .long t_desk_tree])), (h_t_numbers, .inr (3, [.ref h_t_numbers_keys, .ref h_t_numbers_aboves, .ref h_t_numbers_rounds, .int t_numbers_round, .int vL107_0, .int vL107_1, .long vL107_2])), (h_t_desk_powers, .inl (cI, 8, .inl a_t_desk_powers)), (h_t_numbers_keys, .inl (cJ, 1024, .inr (.inl a_t_numbers_keys))), (h_t_numbers_aboves, .inl (cJ, 1024, .inr (.inl a_t_numbers_aboves)))] H → va_D A [(h_t, .inr (7, [.ref h_t_desk, .ref h_t_imageDesk, .ref h_t_deeds, .ref h_t_numbers, .ref h_t_tape, .ref h_t_reader, .ref h_t_speller, .ref h_t_holders, .int t_imageKept])), (h_t_desk, .inr (1, [.int t_desk_genus, .int t_desk_size, .ref h_t_desk_powers, .int t_desk_limit, .long t_desk_tree])), (h_t_numbers, .inr (3, [.ref h_t_numbers_keys, .ref h_t_numbers_aboves, .ref h_t_numbers_rounds, .int t_numbers_round, .int vL107_0, .int vL107_1, .long vL107_2])), (h_t_desk_powers, .inl (cI, 8, .inl a_t_desk_powers)), (h_t_numbers_keys, .inl (cJ, 1024, .inr (.inl a_t_numbers_keys))), (h_t_numbers_aboves, .inl (cJ, 1024, .inr (.inl a_t_numbers_aboves)))] → va_S A s.heap H locs → lv_has ls 6 [(0, .ref h_t), (4, .int vJ51_1), (5, .int vL107_3)] → wq4 (B_X8_numberOfNode_107 vJ51_1 (K_X8_numberOfNode_107_128 a_t_numbers_keys a_t_numbers_aboves)) n107 vL107_0 vL107_1 vL107_2 vL107_3 = some (r0, w0, w1, w2, w3, w4) → W p l e (headSpec wsX8_numberOfNode ({ frames := 24, cells := 0, slots := 0, locals := 701 })).room s m ([.ref h_t, .int p0] : List Value).toArray below meth c H locs 0 0 (MQ below (va_Ql (fun r (_ : Unit) => r = r0 ∧ True) (fun _ t => va_P G vwCl [(h_t, .inr (7, [.ref h_t_desk, .ref h_t_imageDesk, .ref h_t_deeds, .ref h_t_numbers, .ref h_t_tape, .ref h_t_reader, .ref h_t_speller, .ref h_t_holders, .int t_imageKept])), (h_t_desk, .inr (1, [.int t_desk_genus, .int t_desk_size, .ref h_t_desk_powers, .int t_desk_limit, .long t_desk_tree])), (h_t_numbers, .inr (3, [.ref h_t_numbers_keys, .ref h_t_numbers_aboves, .ref h_t_numbers_rounds, .int t_numbers_round, .int w2, .int w3, .long w4])), (h_t_desk_powers, .inl (cI, 8, .inl a_t_desk_powers)), (h_t_numbers_keys, .inl (cJ, 1024, .inr (.inl w0))), (h_t_numbers_aboves, .inl (cJ, 1024, .inr (.inl w1)))] t.heap) A) ([.ref h_t, .int p0] : List Value).toArray s 0 0 A) (F0 m 107 ls []) := by
    intro n107
    induction n107 with
    | zero => intro vL107_0 vL107_1 vL107_2 vL107_3 H locs ls hP hD hS hl h; exact wq4_0 h
    | succ n107 ih107 =>
      intro vL107_0 vL107_1 vL107_2 vL107_3 H locs ls hP hD hS hl h
      have h := wq4_s h
      unfold B_X8_numberOfNode_107 at h
      refine lv_iload hx hb dX8_numberOfNode_107 (lv_at hl 2 rfl) ?_
      refine lv_iload hx hb dX8_numberOfNode_109 (lv_at hl 1 rfl) ?_
      refine lv_icmp_ge (tgt := 128) hx hb dX8_numberOfNode_111 (by decide) (fun c7 => ?_) (fun c7 => ?_)
      · have h := it_p h c7
        exact tK_X8_numberOfNode_107_128 hx hb hr hml hts hown hlocks hK hA vL107_0 vL107_1 vL107_2 _ _ _ hP hD hS (lv_sub hl [0] rfl) h
      have h := it_n h c7
      refine lv_aload_n hx hb dX8_numberOfNode_114 rfl (lv_at hl 0 rfl) ?_
      refine va_get (D := G) (ci := 7) (v := .ref h_t_numbers) (C := RX8) (T := TX8) (N := 9) hx hb hts hinX8 hown hK hP 0 rfl rfl 3 (by decide) (hta _ mw_365) (fun _ h9 => h9) rfl dX8_numberOfNode_115 ?_
      refine lv_iconst (v := (0 : Int32)) hx hb dX8_numberOfNode_118 (by decide) ?_
      obtain ⟨x8, hx8, h⟩ := bd_e h
      try dsimp only at h
      refine k_VvM (n := 1) (As := [.int (0 : Int32)]) (rest := []) hx hb hml hown hts (c_X3_add l G cI cJ cD cH H.size h_t_numbers h_t_numbers_keys h_t_numbers_aboves h_t_numbers_rounds t_numbers_round vL107_0 vL107_1 vL107_2 (0 : Int32) (x8.1) (x8.2.1) (x8.2.2) hx8) gX8_numberOfNode_X3_add rfl rfl rfl (by decide +kernel) ⟨by first | exact Nat.le_of_ble_eq_true rfl | (simp only [headSpec]; omega), by first | exact Nat.le_of_ble_eq_true rfl | (simp only [headSpec]; omega)⟩ hK hP hD hS hA [2] (by decide) rfl rfl (ci := 3) rfl rfl rfl rfl rfl hl.1 (Nat.le_of_ble_eq_true rfl) dX8_numberOfNode_119 ⟨Nat.zero_le _, Nat.zero_le _⟩ [(h_t, .inr (7, [.ref h_t_desk, .ref h_t_imageDesk, .ref h_t_deeds, .ref h_t_numbers, .ref h_t_tape, .ref h_t_reader, .ref h_t_speller, .ref h_t_holders, .int t_imageKept])), (h_t_desk, .inr (1, [.int t_desk_genus, .int t_desk_size, .ref h_t_desk_powers, .int t_desk_limit, .long t_desk_tree])), (h_t_numbers, .inr (3, [.ref h_t_numbers_keys, .ref h_t_numbers_aboves, .ref h_t_numbers_rounds, .int t_numbers_round, .int (x8.1), .int (x8.2.1), .long (x8.2.2)])), (h_t_desk_powers, .inl (cI, 8, .inl a_t_desk_powers)), (h_t_numbers_keys, .inl (cJ, 1024, .inr (.inl a_t_numbers_keys))), (h_t_numbers_aboves, .inl (cJ, 1024, .inr (.inl a_t_numbers_aboves)))] [0, 0, 1, 0, 0, 0] 1 (by decide +kernel) rfl rfl rfl (fun hp8 H locs hP hD hS => ?_)
      refine lv_iinc (v := (vL107_3 + (1 : Int32))) (lv' := [(5, .int (vL107_3 + (1 : Int32))), (0, .ref h_t), (4, .int vJ51_1)]) hx hb dX8_numberOfNode_122 hl (k := 2) rfl (by first | rfl | decide) (by decide) rfl (fun ls hl => ?_)
      refine lv_goto (tgt := 107) hx hb dX8_numberOfNode_125 (by decide) ?_
      exact ih107 (x8.1) (x8.2.1) (x8.2.2) (vL107_3 + (1 : Int32)) _ _ _ hP hD hS (lv_sub hl [1, 2, 0] rfl) h
  exact hL107 FU vK61_104_0 vK61_104_1 vK61_104_2 (0 : Int32) _ _ _ hP hD hS (lv_sub hl [1, 2, 0] rfl) h
set_option maxHeartbeats 4000000 in
set_option maxRecDepth 100000 in
theorem tJ_X8_numberOfNode_51 {l : Launch} {G : va_G} {cI cJ cD cH : ClassId} {h_t : Nat} {h_t_desk : Nat} {h_t_numbers : Nat} {h_t_desk_powers : Nat} {h_t_numbers_keys : Nat} {h_t_numbers_aboves : Nat} {h_t_imageDesk : Nat} {h_t_deeds : Nat} {h_t_tape : Nat} {h_t_reader : Nat} {h_t_speller : Nat} {h_t_holders : Nat} {h_t_numbers_rounds : Nat} {t_imageKept : Int32} {t_desk_genus : Int32} {t_desk_size : Int32} {t_desk_limit : Int32} {t_desk_tree : Int64} {t_numbers_round : Int32} {t_numbers_size : Int32} {t_numbers_sum : Int32} {t_numbers_gathered : Int64} {a_t_desk_powers : Nat → Int32} {a_t_numbers_keys : Nat → Int64} {a_t_numbers_aboves : Nat → Int64} {p0 : Int32} {r0 : Int64} {w0 : Nat → Int64} {w1 : Nat → Int64} {w2 : Int32} {w3 : Int32} {w4 : Int64} {p : Program} {e : Env} {s : State} {m : MethodId} {below : List Frame} {meth : Method} {c : Code} {A : Nat → Prop} (hx : p.tables.exec = Jvm.exec) (hb : c.code = cX8_numberOfNode) (hr : meth.sig.returnType = (some .long)) (hml : c.maxLocals = 6) (hts : ∀ w ∈ wsX8_numberOfNode, w.before ([.ref h_t, .int p0] : List Value).toArray s = true) (hown : s.vm.findClass RX8 = some m.cls) (hlocks : meth.locks = false) (hK : va_K G vwCl (k_T cI cJ cD cH) s) (hA : ∀ q : Nat, s.heap.size ≤ q → A q) : ∀  (vJ51_0 : Int32) (vJ51_1 : Int32) (H : Heap) (locs : List Loc) (ls : Array Slot), va_P G vwCl [(h_t, .inr (7, [.ref h_t_desk, .ref h_t_imageDesk, .ref h_t_deeds, .ref h_t_numbers, .ref h_t_tape, .ref h_t_reader, .ref h_t_speller, .ref h_t_holders, .int t_imageKept])), (h_t_desk, .inr (1, [.int t_desk_genus, .int t_desk_size, .ref h_t_desk_powers, .int t_desk_limit, .long t_desk_tree])), (h_t_numbers, .inr (3, [.ref h_t_numbers_keys, .ref h_t_numbers_aboves, .ref h_t_numbers_rounds, .int t_numbers_round, .int t_numbers_size, .int t_numbers_sum, .long t_numbers_gathered])), (h_t_desk_powers, .inl (cI, 8, .inl a_t_desk_powers)), (h_t_numbers_keys, .inl (cJ, 1024, .inr (.inl a_t_numbers_keys))), (h_t_numbers_aboves, .inl (cJ, 1024, .inr (.inl a_t_numbers_aboves)))] H → va_D A [(h_t, .inr (7, [.ref h_t_desk, .ref h_t_imageDesk, .ref h_t_deeds, .ref h_t_numbers, .ref h_t_tape, .ref h_t_reader, .ref h_t_speller, .ref h_t_holders, .int t_imageKept])), (h_t_desk, .inr (1, [.int t_desk_genus, .int t_desk_size, .ref h_t_desk_powers, .int t_desk_limit, .long t_desk_tree])), (h_t_numbers, .inr (3, [.ref h_t_numbers_keys, .ref h_t_numbers_aboves, .ref h_t_numbers_rounds, .int t_numbers_round, .int t_numbers_size, .int t_numbers_sum, .long t_numbers_gathered])), (h_t_desk_powers, .inl (cI, 8, .inl a_t_desk_powers)), (h_t_numbers_keys, .inl (cJ, 1024, .inr (.inl a_t_numbers_keys))), (h_t_numbers_aboves, .inl (cJ, 1024, .inr (.inl a_t_numbers_aboves)))] → va_S A s.heap H locs → lv_has ls 6 [(0, .ref h_t), (3, .int vJ51_0), (4, .int vJ51_1)] → J_X8_numberOfNode_51 t_desk_size a_t_desk_powers a_t_numbers_keys a_t_numbers_aboves vJ51_0 vJ51_1 = some (r0, w0, w1, w2, w3, w4) → W p l e (headSpec wsX8_numberOfNode ({ frames := 24, cells := 0, slots := 0, locals := 701 })).room s m ([.ref h_t, .int p0] : List Value).toArray below meth c H locs 0 0 (MQ below (va_Ql (fun r (_ : Unit) => r = r0 ∧ True) (fun _ t => va_P G vwCl [(h_t, .inr (7, [.ref h_t_desk, .ref h_t_imageDesk, .ref h_t_deeds, .ref h_t_numbers, .ref h_t_tape, .ref h_t_reader, .ref h_t_speller, .ref h_t_holders, .int t_imageKept])), (h_t_desk, .inr (1, [.int t_desk_genus, .int t_desk_size, .ref h_t_desk_powers, .int t_desk_limit, .long t_desk_tree])), (h_t_numbers, .inr (3, [.ref h_t_numbers_keys, .ref h_t_numbers_aboves, .ref h_t_numbers_rounds, .int t_numbers_round, .int w2, .int w3, .long w4])), (h_t_desk_powers, .inl (cI, 8, .inl a_t_desk_powers)), (h_t_numbers_keys, .inl (cJ, 1024, .inr (.inl w0))), (h_t_numbers_aboves, .inl (cJ, 1024, .inr (.inl w1)))] t.heap) A) ([.ref h_t, .int p0] : List Value).toArray s 0 0 A) (F0 m 51 ls []) := by
  have hta : ∀ w ∈ wA, w.before ([.ref h_t, .int p0] : List Value).toArray s = true := hta_of hts
  have hinX1 : ∀ w ∈ wsX10, w ∈ wsX8_numberOfNode := hin_of in_X1
  have hinX8 : ∀ w ∈ wsX80, w ∈ wsX8_numberOfNode := hin_of in_X8
  intro vJ51_0 vJ51_1 H locs ls hP hD hS hl h
  unfold J_X8_numberOfNode_51 at h
  refine lv_aload_n hx hb dX8_numberOfNode_51 rfl (lv_at hl 0 rfl) ?_
  refine va_get (D := G) (ci := 7) (v := .ref h_t_numbers) (C := RX8) (T := TX8) (N := 9) hx hb hts hinX8 hown hK hP 0 rfl rfl 3 (by decide) (hta _ mw_365) (fun _ h9 => h9) rfl dX8_numberOfNode_52 ?_
  obtain ⟨x4, hx4, h⟩ := bd_e h
  try dsimp only at h
  refine k_VvM (n := 0) (As := []) (rest := []) hx hb hml hown hts (c_X3_begin l G cI cJ cD cH H.size h_t_numbers h_t_numbers_keys h_t_numbers_aboves h_t_numbers_rounds t_numbers_round t_numbers_size t_numbers_sum t_numbers_gathered (x4.1) (x4.2.1) (x4.2.2) hx4) gX8_numberOfNode_X3_begin rfl rfl rfl (by decide +kernel) ⟨by first | exact Nat.le_of_ble_eq_true rfl | (simp only [headSpec]; omega), by first | exact Nat.le_of_ble_eq_true rfl | (simp only [headSpec]; omega)⟩ hK hP hD hS hA [2] (by decide) rfl rfl (ci := 3) rfl rfl rfl rfl rfl hl.1 (Nat.le_of_ble_eq_true rfl) dX8_numberOfNode_55 ⟨Nat.zero_le _, Nat.zero_le _⟩ [(h_t, .inr (7, [.ref h_t_desk, .ref h_t_imageDesk, .ref h_t_deeds, .ref h_t_numbers, .ref h_t_tape, .ref h_t_reader, .ref h_t_speller, .ref h_t_holders, .int t_imageKept])), (h_t_desk, .inr (1, [.int t_desk_genus, .int t_desk_size, .ref h_t_desk_powers, .int t_desk_limit, .long t_desk_tree])), (h_t_numbers, .inr (3, [.ref h_t_numbers_keys, .ref h_t_numbers_aboves, .ref h_t_numbers_rounds, .int t_numbers_round, .int (x4.1), .int (x4.2.1), .long (x4.2.2)])), (h_t_desk_powers, .inl (cI, 8, .inl a_t_desk_powers)), (h_t_numbers_keys, .inl (cJ, 1024, .inr (.inl a_t_numbers_keys))), (h_t_numbers_aboves, .inl (cJ, 1024, .inr (.inl a_t_numbers_aboves)))] [0, 0, 1, 0, 0, 0] 1 (by decide +kernel) rfl rfl rfl (fun hp4 H locs hP hD hS => ?_)
  refine lv_iconst (v := (0 : Int32)) hx hb dX8_numberOfNode_58 (by decide) ?_
  refine lv_istore (lv' := [(5, .int (0 : Int32)), (0, .ref h_t), (3, .int vJ51_0), (4, .int vJ51_1)]) hx hb dX8_numberOfNode_59 hl (by decide) rfl (fun ls hl => ?_)
  have hL61 : ∀ (n61 : Nat) (vL61_0 : Int32) (vL61_1 : Int32) (vL61_2 : Int64) (vL61_3 : Int32) (H : Heap) (locs : List Loc) (ls : Array Slot), va_P G vwCl [(h_t, .inr (7, [.ref h_t_desk, .ref h_t_imageDesk, .ref h_t_deeds, .ref h_t_numbers, .ref h_t_tape, .ref h_t_reader, .ref h_t_speller, .ref h_t_holders, .int t_imageKept])), (h_t_desk, .inr (1, [.int t_desk_genus, .int t_desk_size, .ref h_t_desk_powers, .int t_desk_limit, .long t_desk_tree])), (h_t_numbers, .inr (3, [.ref h_t_numbers_keys, .ref h_t_numbers_aboves, .ref h_t_numbers_rounds, .int t_numbers_round, .int vL61_0, .int vL61_1, .long vL61_2])), (h_t_desk_powers, .inl (cI, 8, .inl a_t_desk_powers)), (h_t_numbers_keys, .inl (cJ, 1024, .inr (.inl a_t_numbers_keys))), (h_t_numbers_aboves, .inl (cJ, 1024, .inr (.inl a_t_numbers_aboves)))] H → va_D A [(h_t, .inr (7, [.ref h_t_desk, .ref h_t_imageDesk, .ref h_t_deeds, .ref h_t_numbers, .ref h_t_tape, .ref h_t_reader, .ref h_t_speller, .ref h_t_holders, .int t_imageKept])), (h_t_desk, .inr (1, [.int t_desk_genus, .int t_desk_size, .ref h_t_desk_powers, .int t_desk_limit, .long t_desk_tree])), (h_t_numbers, .inr (3, [.ref h_t_numbers_keys, .ref h_t_numbers_aboves, .ref h_t_numbers_rounds, .int t_numbers_round, .int vL61_0, .int vL61_1, .long vL61_2])), (h_t_desk_powers, .inl (cI, 8, .inl a_t_desk_powers)), (h_t_numbers_keys, .inl (cJ, 1024, .inr (.inl a_t_numbers_keys))), (h_t_numbers_aboves, .inl (cJ, 1024, .inr (.inl a_t_numbers_aboves)))] → va_S A s.heap H locs → lv_has ls 6 [(0, .ref h_t), (3, .int vJ51_0), (4, .int vJ51_1), (5, .int vL61_3)] → wq4 (B_X8_numberOfNode_61 t_desk_size a_t_desk_powers vJ51_0 (K_X8_numberOfNode_61_104 a_t_numbers_keys a_t_numbers_aboves vJ51_1)) n61 vL61_0 vL61_1 vL61_2 vL61_3 = some (r0, w0, w1, w2, w3, w4) → W p l e (headSpec wsX8_numberOfNode ({ frames := 24, cells := 0, slots := 0, locals := 701 })).room s m ([.ref h_t, .int p0] : List Value).toArray below meth c H locs 0 0 (MQ below (va_Ql (fun r (_ : Unit) => r = r0 ∧ True) (fun _ t => va_P G vwCl [(h_t, .inr (7, [.ref h_t_desk, .ref h_t_imageDesk, .ref h_t_deeds, .ref h_t_numbers, .ref h_t_tape, .ref h_t_reader, .ref h_t_speller, .ref h_t_holders, .int t_imageKept])), (h_t_desk, .inr (1, [.int t_desk_genus, .int t_desk_size, .ref h_t_desk_powers, .int t_desk_limit, .long t_desk_tree])), (h_t_numbers, .inr (3, [.ref h_t_numbers_keys, .ref h_t_numbers_aboves, .ref h_t_numbers_rounds, .int t_numbers_round, .int w2, .int w3, .long w4])), (h_t_desk_powers, .inl (cI, 8, .inl a_t_desk_powers)), (h_t_numbers_keys, .inl (cJ, 1024, .inr (.inl w0))), (h_t_numbers_aboves, .inl (cJ, 1024, .inr (.inl w1)))] t.heap) A) ([.ref h_t, .int p0] : List Value).toArray s 0 0 A) (F0 m 61 ls []) := by
    intro n61
    induction n61 with
    | zero => intro vL61_0 vL61_1 vL61_2 vL61_3 H locs ls hP hD hS hl h; exact wq4_0 h
    | succ n61 ih61 =>
      intro vL61_0 vL61_1 vL61_2 vL61_3 H locs ls hP hD hS hl h
      have h := wq4_s h
      unfold B_X8_numberOfNode_61 at h
      refine lv_iload hx hb dX8_numberOfNode_61 (lv_at hl 3 rfl) ?_
      refine lv_aload_n hx hb dX8_numberOfNode_63 rfl (lv_at hl 0 rfl) ?_
      refine va_get (D := G) (ci := 7) (v := .ref h_t_desk) (C := RX8) (T := TX8) (N := 9) hx hb hts hinX8 hown hK hP 0 rfl rfl 0 (by decide) (hta _ mw_358) (fun _ h9 => h9) rfl dX8_numberOfNode_64 ?_
      refine va_get (D := G) (ci := 1) (v := .int t_desk_size) (C := RX1) (T := TX1) (N := 5) hx hb hts hinX1 hown hK hP 1 rfl rfl 1 (by decide) (hta _ mw_394) (fun _ h9 => h9) rfl dX8_numberOfNode_67 ?_
      refine lv_icmp_ge (tgt := 104) hx hb dX8_numberOfNode_70 (by decide) (fun c9 => ?_) (fun c9 => ?_)
      · have h := it_p h c9
        exact tK_X8_numberOfNode_61_104 hx hb hr hml hts hown hlocks hK hA vL61_0 vL61_1 vL61_2 _ _ _ hP hD hS (lv_sub hl [0, 2] rfl) h
      have h := it_n h c9
      refine lv_iload_n hx hb dX8_numberOfNode_73 rfl (lv_at hl 1 rfl) ?_
      refine lv_iload hx hb dX8_numberOfNode_74 (lv_at hl 3 rfl) ?_
      refine lv_ishr hx hb dX8_numberOfNode_76 ?_
      refine lv_iconst (v := (1 : Int32)) hx hb dX8_numberOfNode_77 (by decide) ?_
      refine lv_iand hx hb dX8_numberOfNode_78 ?_
      refine lv_if_eq (tgt := 98) hx hb dX8_numberOfNode_79 (by decide) (fun c10 => ?_) (fun c10 => ?_)
      · have h := it_p h c10
        refine lv_iinc (v := (vL61_3 + (1 : Int32))) (lv' := [(5, .int (vL61_3 + (1 : Int32))), (0, .ref h_t), (3, .int vJ51_0), (4, .int vJ51_1)]) hx hb dX8_numberOfNode_98 hl (k := 3) rfl (by first | rfl | decide) (by decide) rfl (fun ls hl => ?_)
        refine lv_goto (tgt := 61) hx hb dX8_numberOfNode_101 (by decide) ?_
        exact ih61 vL61_0 vL61_1 vL61_2 (vL61_3 + (1 : Int32)) _ _ _ hP hD hS (lv_sub hl [1, 2, 3, 0] rfl) h
      have h := it_n h c10
      refine lv_aload_n hx hb dX8_numberOfNode_82 rfl (lv_at hl 0 rfl) ?_
      refine va_get (D := G) (ci := 7) (v := .ref h_t_numbers) (C := RX8) (T := TX8) (N := 9) hx hb hts hinX8 hown hK hP 0 rfl rfl 3 (by decide) (hta _ mw_365) (fun _ h9 => h9) rfl dX8_numberOfNode_83 ?_
      refine lv_aload_n hx hb dX8_numberOfNode_86 rfl (lv_at hl 0 rfl) ?_
      refine va_get (D := G) (ci := 7) (v := .ref h_t_desk) (C := RX8) (T := TX8) (N := 9) hx hb hts hinX8 hown hK hP 0 rfl rfl 0 (by decide) (hta _ mw_358) (fun _ h9 => h9) rfl dX8_numberOfNode_87 ?_
      refine lv_iload hx hb dX8_numberOfNode_90 (lv_at hl 3 rfl) ?_
      obtain ⟨x11, hx11, h⟩ := bd_e h
      try dsimp only at h
      refine k_ViU (n := 1) (As := [.int vL61_3]) (rest := [.ref h_t_numbers]) hx hb hml hown hts (c_X1_powerAt l G cI cJ cD cH H.size h_t_desk h_t_desk_powers t_desk_genus t_desk_size t_desk_limit t_desk_tree a_t_desk_powers vL61_3 x11 hx11) gX8_numberOfNode_X1_powerAt rfl rfl rfl (by decide +kernel) ⟨by first | exact Nat.le_of_ble_eq_true rfl | (simp only [headSpec]; omega), by first | exact Nat.le_of_ble_eq_true rfl | (simp only [headSpec]; omega)⟩ hK hP hD hS hA [1, 3] (by decide) rfl (ci := 1) rfl rfl rfl rfl rfl hl.1 (Nat.le_of_ble_eq_true rfl) dX8_numberOfNode_92 ⟨Nat.zero_le _, Nat.zero_le _⟩ (fun hp11 H locs hP hS => ?_)
      obtain ⟨x12, hx12, h⟩ := bd_e h
      try dsimp only at h
      refine k_VvM (n := 1) (As := [.int x11]) (rest := []) hx hb hml hown hts (c_X3_add l G cI cJ cD cH H.size h_t_numbers h_t_numbers_keys h_t_numbers_aboves h_t_numbers_rounds t_numbers_round vL61_0 vL61_1 vL61_2 x11 (x12.1) (x12.2.1) (x12.2.2) hx12) gX8_numberOfNode_X3_add rfl rfl rfl (by decide +kernel) ⟨by first | exact Nat.le_of_ble_eq_true rfl | (simp only [headSpec]; omega), by first | exact Nat.le_of_ble_eq_true rfl | (simp only [headSpec]; omega)⟩ hK hP hD hS hA [2] (by decide) rfl rfl (ci := 3) rfl rfl rfl rfl rfl hl.1 (Nat.le_of_ble_eq_true rfl) dX8_numberOfNode_95 ⟨Nat.zero_le _, Nat.zero_le _⟩ [(h_t, .inr (7, [.ref h_t_desk, .ref h_t_imageDesk, .ref h_t_deeds, .ref h_t_numbers, .ref h_t_tape, .ref h_t_reader, .ref h_t_speller, .ref h_t_holders, .int t_imageKept])), (h_t_desk, .inr (1, [.int t_desk_genus, .int t_desk_size, .ref h_t_desk_powers, .int t_desk_limit, .long t_desk_tree])), (h_t_numbers, .inr (3, [.ref h_t_numbers_keys, .ref h_t_numbers_aboves, .ref h_t_numbers_rounds, .int t_numbers_round, .int (x12.1), .int (x12.2.1), .long (x12.2.2)])), (h_t_desk_powers, .inl (cI, 8, .inl a_t_desk_powers)), (h_t_numbers_keys, .inl (cJ, 1024, .inr (.inl a_t_numbers_keys))), (h_t_numbers_aboves, .inl (cJ, 1024, .inr (.inl a_t_numbers_aboves)))] [0, 0, 1, 0, 0, 0] 1 (by decide +kernel) rfl rfl rfl (fun hp12 H locs hP hD hS => ?_)
      refine lv_iinc (v := (vL61_3 + (1 : Int32))) (lv' := [(5, .int (vL61_3 + (1 : Int32))), (0, .ref h_t), (3, .int vJ51_0), (4, .int vJ51_1)]) hx hb dX8_numberOfNode_98 hl (k := 3) rfl (by first | rfl | decide) (by decide) rfl (fun ls hl => ?_)
      refine lv_goto (tgt := 61) hx hb dX8_numberOfNode_101 (by decide) ?_
      exact ih61 (x12.1) (x12.2.1) (x12.2.2) (vL61_3 + (1 : Int32)) _ _ _ hP hD hS (lv_sub hl [1, 2, 3, 0] rfl) h
  exact hL61 FU (x4.1) (x4.2.1) (x4.2.2) (0 : Int32) _ _ _ hP hD hS (lv_sub hl [1, 2, 3, 0] rfl) h
set_option maxHeartbeats 4000000 in
set_option maxRecDepth 100000 in
theorem c_X8_numberOfNode (l : Launch) (G : va_G) (cI cJ cD cH : ClassId) (sz : Nat) (h_t : Nat) (h_t_desk : Nat) (h_t_numbers : Nat) (h_t_desk_powers : Nat) (h_t_numbers_keys : Nat) (h_t_numbers_aboves : Nat) (h_t_imageDesk : Nat) (h_t_deeds : Nat) (h_t_tape : Nat) (h_t_reader : Nat) (h_t_speller : Nat) (h_t_holders : Nat) (h_t_numbers_rounds : Nat) (t_imageKept : Int32) (t_desk_genus : Int32) (t_desk_size : Int32) (t_desk_limit : Int32) (t_desk_tree : Int64) (t_numbers_round : Int32) (t_numbers_size : Int32) (t_numbers_sum : Int32) (t_numbers_gathered : Int64) (a_t_desk_powers : Nat → Int32) (a_t_numbers_keys : Nat → Int64) (a_t_numbers_aboves : Nat → Int64) (p0 : Int32) (r0 : Int64) (w0 : Nat → Int64) (w1 : Nat → Int64) (w2 : Int32) (w3 : Int32) (w4 : Int64) (hF : F_X8_numberOfNode t_desk_size t_desk_limit t_desk_tree a_t_desk_powers a_t_numbers_keys a_t_numbers_aboves p0 = some (r0, w0, w1, w2, w3, w4)) : Met l yX8_numberOfNode wsX8_numberOfNode ({ frames := 24, cells := 0, slots := 0, locals := 701 }) (k_pre G (k_T cI cJ cD cH) [(h_t, .inr (7, [.ref h_t_desk, .ref h_t_imageDesk, .ref h_t_deeds, .ref h_t_numbers, .ref h_t_tape, .ref h_t_reader, .ref h_t_speller, .ref h_t_holders, .int t_imageKept])), (h_t_desk, .inr (1, [.int t_desk_genus, .int t_desk_size, .ref h_t_desk_powers, .int t_desk_limit, .long t_desk_tree])), (h_t_numbers, .inr (3, [.ref h_t_numbers_keys, .ref h_t_numbers_aboves, .ref h_t_numbers_rounds, .int t_numbers_round, .int t_numbers_size, .int t_numbers_sum, .long t_numbers_gathered])), (h_t_desk_powers, .inl (cI, 8, .inl a_t_desk_powers)), (h_t_numbers_keys, .inl (cJ, 1024, .inr (.inl a_t_numbers_keys))), (h_t_numbers_aboves, .inl (cJ, 1024, .inr (.inl a_t_numbers_aboves)))] sz [.ref h_t, .int p0]) (va_Ql (fun r (_ : Unit) => r = r0 ∧ True) (fun _ t => va_P G vwCl [(h_t, .inr (7, [.ref h_t_desk, .ref h_t_imageDesk, .ref h_t_deeds, .ref h_t_numbers, .ref h_t_tape, .ref h_t_reader, .ref h_t_speller, .ref h_t_holders, .int t_imageKept])), (h_t_desk, .inr (1, [.int t_desk_genus, .int t_desk_size, .ref h_t_desk_powers, .int t_desk_limit, .long t_desk_tree])), (h_t_numbers, .inr (3, [.ref h_t_numbers_keys, .ref h_t_numbers_aboves, .ref h_t_numbers_rounds, .int t_numbers_round, .int w2, .int w3, .long w4])), (h_t_desk_powers, .inl (cI, 8, .inl a_t_desk_powers)), (h_t_numbers_keys, .inl (cJ, 1024, .inr (.inl w0))), (h_t_numbers_aboves, .inl (cJ, 1024, .inr (.inl w1)))] t.heap) (va_A [(h_t, .inr (7, [.ref h_t_desk, .ref h_t_imageDesk, .ref h_t_deeds, .ref h_t_numbers, .ref h_t_tape, .ref h_t_reader, .ref h_t_speller, .ref h_t_holders, .int t_imageKept])), (h_t_desk, .inr (1, [.int t_desk_genus, .int t_desk_size, .ref h_t_desk_powers, .int t_desk_limit, .long t_desk_tree])), (h_t_numbers, .inr (3, [.ref h_t_numbers_keys, .ref h_t_numbers_aboves, .ref h_t_numbers_rounds, .int t_numbers_round, .int t_numbers_size, .int t_numbers_sum, .long t_numbers_gathered])), (h_t_desk_powers, .inl (cI, 8, .inl a_t_desk_powers)), (h_t_numbers_keys, .inl (cJ, 1024, .inr (.inl a_t_numbers_keys))), (h_t_numbers_aboves, .inl (cJ, 1024, .inr (.inl a_t_numbers_aboves)))] sz)) 0 0 (va_A [(h_t, .inr (7, [.ref h_t_desk, .ref h_t_imageDesk, .ref h_t_deeds, .ref h_t_numbers, .ref h_t_tape, .ref h_t_reader, .ref h_t_speller, .ref h_t_holders, .int t_imageKept])), (h_t_desk, .inr (1, [.int t_desk_genus, .int t_desk_size, .ref h_t_desk_powers, .int t_desk_limit, .long t_desk_tree])), (h_t_numbers, .inr (3, [.ref h_t_numbers_keys, .ref h_t_numbers_aboves, .ref h_t_numbers_rounds, .int t_numbers_round, .int t_numbers_size, .int t_numbers_sum, .long t_numbers_gathered])), (h_t_desk_powers, .inl (cI, 8, .inl a_t_desk_powers)), (h_t_numbers_keys, .inl (cJ, 1024, .inr (.inl a_t_numbers_keys))), (h_t_numbers_aboves, .inl (cJ, 1024, .inr (.inl a_t_numbers_aboves)))] sz) := by
  refine Met.ofW (cc := cX8_numberOfNode) (maxL := 6) (ret := (some .long)) (by decide) rfl ?_
  intro p e s m args below meth c s₁ B hml hv
  obtain ⟨rfl, hsz, hP, hK, hD0⟩ := hv
  have hx := B.exec
  have hb := B.bytes
  have hr := B.returns
  have hts := atoms_spec (ws := wsX8_numberOfNode) B.pre
  have hta : ∀ w ∈ wA, w.before ([.ref h_t, .int p0] : List Value).toArray s = true := hta_of hts
  have hown : s.vm.findClass RX8 = some m.cls := findClass_of_methodNamed B.named
  have hlocks := B.notSynchronized
  subst hsz
  have hD := hD0.self (sz := s.heap.size)
  generalize hAe : va_A [(h_t, .inr (7, [.ref h_t_desk, .ref h_t_imageDesk, .ref h_t_deeds, .ref h_t_numbers, .ref h_t_tape, .ref h_t_reader, .ref h_t_speller, .ref h_t_holders, .int t_imageKept])), (h_t_desk, .inr (1, [.int t_desk_genus, .int t_desk_size, .ref h_t_desk_powers, .int t_desk_limit, .long t_desk_tree])), (h_t_numbers, .inr (3, [.ref h_t_numbers_keys, .ref h_t_numbers_aboves, .ref h_t_numbers_rounds, .int t_numbers_round, .int t_numbers_size, .int t_numbers_sum, .long t_numbers_gathered])), (h_t_desk_powers, .inl (cI, 8, .inl a_t_desk_powers)), (h_t_numbers_keys, .inl (cJ, 1024, .inr (.inl a_t_numbers_keys))), (h_t_numbers_aboves, .inl (cJ, 1024, .inr (.inl a_t_numbers_aboves)))] s.heap.size = A at hD ⊢
  have hA : ∀ q : Nat, s.heap.size ≤ q → A q := fun q h => by rw [← hAe]; exact Or.inr h
  have hS : va_S A s.heap s.heap [] := va_S.rf
  have hl := lv_entry ([.ref h_t, .int p0]) (n := 6) (Nat.le_of_ble_eq_true rfl)
  rw [lg_entry_eq]
  generalize (lg_sl ([.ref h_t, .int p0]) ++ List.replicate (6 - (lg_sl ([.ref h_t, .int p0])).length) Slot.unset).toArray = ls at hl ⊢
  have hl : lv_has ls 6 [(0, .ref h_t), (1, .int p0)] := hl
  have hinX1 : ∀ w ∈ wsX10, w ∈ wsX8_numberOfNode := hin_of in_X1
  have hinX8 : ∀ w ∈ wsX80, w ∈ wsX8_numberOfNode := hin_of in_X8
  have h := hF
  unfold F_X8_numberOfNode at h
  refine lv_iload_n hx hb dX8_numberOfNode_0 rfl (lv_at hl 1 rfl) ?_
  refine lv_aload_n hx hb dX8_numberOfNode_1 rfl (lv_at hl 0 rfl) ?_
  refine va_get (D := G) (ci := 7) (v := .ref h_t_desk) (C := RX8) (T := TX8) (N := 9) hx hb hts hinX8 hown hK hP 0 rfl rfl 0 (by decide) (hta _ mw_358) (fun _ h9 => h9) rfl dX8_numberOfNode_2 ?_
  refine va_get (D := G) (ci := 1) (v := .int t_desk_limit) (C := RX1) (T := TX1) (N := 5) hx hb hts hinX1 hown hK hP 1 rfl rfl 3 (by decide) (hta _ mw_479) (fun _ h9 => h9) rfl dX8_numberOfNode_5 ?_
  obtain ⟨x1, hx1, h⟩ := bd_e h
  try dsimp only at h
  refine k_SiU (n := 2) (As := [.int p0, .int t_desk_limit]) (rest := []) hx hb hml hown hts (c_X6_under l G cI cJ cD cH s.heap.size p0 t_desk_limit x1 hx1) gX8_numberOfNode_X6_under rfl rfl rfl (by decide +kernel) ⟨by first | exact Nat.le_of_ble_eq_true rfl | (simp only [headSpec]; omega), by first | exact Nat.le_of_ble_eq_true rfl | (simp only [headSpec]; omega)⟩ hK hP hD hS hA [] (by decide) rfl rfl rfl hl.1 (Nat.le_of_ble_eq_true rfl) dX8_numberOfNode_8 ⟨Nat.zero_le _, Nat.zero_le _⟩ (fun hp1 H locs hP hS => ?_)
  refine lv_istore_n (lv' := [(2, .int x1), (0, .ref h_t), (1, .int p0)]) hx hb dX8_numberOfNode_11 rfl hl (by decide) rfl (fun ls hl => ?_)
  refine lv_aload_n hx hb dX8_numberOfNode_12 rfl (lv_at hl 1 rfl) ?_
  refine va_get (D := G) (ci := 7) (v := .ref h_t_desk) (C := RX8) (T := TX8) (N := 9) hx hb hts hinX8 hown hK hP 0 rfl rfl 0 (by decide) (hta _ mw_358) (fun _ h9 => h9) rfl dX8_numberOfNode_13 ?_
  refine va_get (D := G) (ci := 1) (v := .long t_desk_tree) (C := RX1) (T := TX1) (N := 5) hx hb hts hinX1 hown hK hP 1 rfl rfl 4 (by decide) (hta _ mw_480) (fun _ h9 => h9) rfl dX8_numberOfNode_16 ?_
  refine lv_iload_n hx hb dX8_numberOfNode_19 rfl (lv_at hl 0 rfl) ?_
  obtain ⟨x2, hx2, h⟩ := bd_e h
  try dsimp only at h
  refine k_SiU (n := 2) (As := [.long t_desk_tree, .int x1]) (rest := []) hx hb hml hown hts (c_X6_leavesAt l G cI cJ cD cH H.size t_desk_tree x1 x2 hx2) gX8_numberOfNode_X6_leavesAt rfl rfl rfl (by decide +kernel) ⟨by first | exact Nat.le_of_ble_eq_true rfl | (simp only [headSpec]; omega), by first | exact Nat.le_of_ble_eq_true rfl | (simp only [headSpec]; omega)⟩ hK hP hD hS hA [] (by decide) rfl rfl rfl hl.1 (Nat.le_of_ble_eq_true rfl) dX8_numberOfNode_20 ⟨Nat.zero_le _, Nat.zero_le _⟩ (fun hp2 H locs hP hS => ?_)
  refine lv_istore_n (lv' := [(3, .int x2), (2, .int x1), (0, .ref h_t), (1, .int p0)]) hx hb dX8_numberOfNode_23 rfl hl (by decide) rfl (fun ls hl => ?_)
  refine lv_aload_n hx hb dX8_numberOfNode_24 rfl (lv_at hl 2 rfl) ?_
  refine va_get (D := G) (ci := 7) (v := .ref h_t_desk) (C := RX8) (T := TX8) (N := 9) hx hb hts hinX8 hown hK hP 0 rfl rfl 0 (by decide) (hta _ mw_358) (fun _ h9 => h9) rfl dX8_numberOfNode_25 ?_
  refine va_get (D := G) (ci := 1) (v := .long t_desk_tree) (C := RX1) (T := TX1) (N := 5) hx hb hts hinX1 hown hK hP 1 rfl rfl 4 (by decide) (hta _ mw_480) (fun _ h9 => h9) rfl dX8_numberOfNode_28 ?_
  refine lv_iload_n hx hb dX8_numberOfNode_31 rfl (lv_at hl 1 rfl) ?_
  obtain ⟨x3, hx3, h⟩ := bd_e h
  try dsimp only at h
  refine k_SiU (n := 2) (As := [.long t_desk_tree, .int x1]) (rest := []) hx hb hml hown hts (c_X6_edgesDown l G cI cJ cD cH H.size t_desk_tree x1 x3 hx3) gX8_numberOfNode_X6_edgesDown rfl rfl rfl (by decide +kernel) ⟨by first | exact Nat.le_of_ble_eq_true rfl | (simp only [headSpec]; omega), by first | exact Nat.le_of_ble_eq_true rfl | (simp only [headSpec]; omega)⟩ hK hP hD hS hA [] (by decide) rfl rfl rfl hl.1 (Nat.le_of_ble_eq_true rfl) dX8_numberOfNode_32 ⟨Nat.zero_le _, Nat.zero_le _⟩ (fun hp3 H locs hP hS => ?_)
  refine lv_istore (lv' := [(4, .int x3), (3, .int x2), (2, .int x1), (0, .ref h_t), (1, .int p0)]) hx hb dX8_numberOfNode_35 hl (by decide) rfl (fun ls hl => ?_)
  refine lv_iload_n hx hb dX8_numberOfNode_37 rfl (lv_at hl 4 rfl) ?_
  refine lv_if_ne (tgt := 48) hx hb dX8_numberOfNode_38 (by decide) (fun c13 => ?_) (fun c13 => ?_)
  · have h := it_n h c13
    refine lv_iinc (v := (x3 + (1 : Int32))) (lv' := [(4, .int (x3 + (1 : Int32))), (3, .int x2), (2, .int x1), (0, .ref h_t), (1, .int p0)]) hx hb dX8_numberOfNode_48 hl (k := 0) rfl (by first | rfl | decide) (by decide) rfl (fun ls hl => ?_)
    exact tJ_X8_numberOfNode_51 hx hb hr hml hts hown hlocks hK hA x2 (x3 + (1 : Int32)) _ _ _ hP hD hS (lv_sub hl [3, 1, 0] rfl) h
  have h := it_p h c13
  refine lv_iload_n hx hb dX8_numberOfNode_41 rfl (lv_at hl 1 rfl) ?_
  refine lv_iconst (v := (1 : Int32)) hx hb dX8_numberOfNode_42 (by decide) ?_
  refine lv_ior hx hb dX8_numberOfNode_43 ?_
  refine lv_istore_n (lv' := [(3, .int (x2 ||| (1 : Int32))), (4, .int x3), (2, .int x1), (0, .ref h_t), (1, .int p0)]) hx hb dX8_numberOfNode_44 rfl hl (by decide) rfl (fun ls hl => ?_)
  refine lv_goto (tgt := 51) hx hb dX8_numberOfNode_45 (by decide) ?_
  exact tJ_X8_numberOfNode_51 hx hb hr hml hts hown hlocks hK hA (x2 ||| (1 : Int32)) x3 _ _ _ hP hD hS (lv_sub hl [3, 0, 1] rfl) h
