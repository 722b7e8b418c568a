/-! X5_addSplit -/
set_option maxHeartbeats 4000000 in
set_option maxRecDepth 100000 in
theorem c_X5_addSplit (l : Launch) (G : va_G) (cI cJ cD cH : ClassId) (sz : Nat) (h_t : Nat) (h_t_bytes : Nat) (t_size : Int32) (a_t_bytes : Nat → Int32) (p0 : Int32) (w0 : Nat → Int32) (w1 : Int32) (hF : F_X5_addSplit t_size a_t_bytes p0 = some (w0, w1)) : Met l yX5_addSplit wsX5_addSplit ({ frames := 2, cells := 0, slots := 0, locals := 42 }) (k_pre G (k_T cI cJ cD cH) [(h_t, .inr (5, [.ref h_t_bytes, .int t_size])), (h_t_bytes, .inl (cI, 39, .inl a_t_bytes))] sz [.ref h_t, .int p0]) (va_Qv (fun (_ : Unit) => True) (fun _ t => va_P G vwCl [(h_t, .inr (5, [.ref h_t_bytes, .int w1])), (h_t_bytes, .inl (cI, 39, .inl w0))] t.heap) (va_A [(h_t, .inr (5, [.ref h_t_bytes, .int t_size])), (h_t_bytes, .inl (cI, 39, .inl a_t_bytes))] sz)) 0 0 (va_A [(h_t, .inr (5, [.ref h_t_bytes, .int t_size])), (h_t_bytes, .inl (cI, 39, .inl a_t_bytes))] sz) := by
  refine Met.ofW (cc := cX5_addSplit) (maxL := 3) (ret := none) (by decide) rfl ?_
  intro p e s m args below meth c s₁ B hml hv
  obtain ⟨rfl, hsz, hP, hK, hD0⟩ := hv
  have hx := B.exec
  have hb := B.bytes
  have hr := B.returns
  have hts := atoms_spec (ws := wsX5_addSplit) B.pre
  have hta : ∀ w ∈ wA, w.before ([.ref h_t, .int p0] : List Value).toArray s = true := hta_of hts
  have hown : s.vm.findClass RX5 = some m.cls := findClass_of_methodNamed B.named
  have hlocks := B.notSynchronized
  subst hsz
  have hD := hD0.self (sz := s.heap.size)
  generalize hAe : va_A [(h_t, .inr (5, [.ref h_t_bytes, .int t_size])), (h_t_bytes, .inl (cI, 39, .inl a_t_bytes))] s.heap.size = A at hD ⊢
  have hA : ∀ q : Nat, s.heap.size ≤ q → A q := fun q h => by rw [← hAe]; exact Or.inr h
  have hS : va_S A s.heap s.heap [] := va_S.rf
  have hl := lv_entry ([.ref h_t, .int p0]) (n := 3) (Nat.le_of_ble_eq_true rfl)
  rw [lg_entry_eq]
  generalize (lg_sl ([.ref h_t, .int p0]) ++ List.replicate (3 - (lg_sl ([.ref h_t, .int p0])).length) Slot.unset).toArray = ls at hl ⊢
  have hl : lv_has ls 3 [(0, .ref h_t), (1, .int p0)] := hl
  have h := hF
  unfold F_X5_addSplit at h
  refine lv_aload_n hx hb dX5_addSplit_0 rfl (lv_at hl 0 rfl) ?_
  refine lv_bipush (v := (59 : Int32)) hx hb dX5_addSplit_1 (by decide) ?_
  obtain ⟨x1, hx1, h⟩ := bd_e h
  try dsimp only at h
  refine k_VvM (n := 1) (As := [.int (59 : Int32)]) (rest := []) hx hb hml hown hts (c_X5_addByte l G cI cJ cD cH s.heap.size h_t h_t_bytes t_size a_t_bytes (59 : Int32) (x1.1) (x1.2) hx1) gX5_addSplit_X5_addByte rfl rfl rfl (by decide +kernel) ⟨by first | exact Nat.le_of_ble_eq_true rfl | (simp only [headSpec]; omega), by first | exact Nat.le_of_ble_eq_true rfl | (simp only [headSpec]; omega)⟩ hK hP hD hS hA [0, 1] (by decide) rfl rfl (ci := 5) rfl rfl rfl rfl rfl hl.1 (Nat.le_of_ble_eq_true rfl) dX5_addSplit_3 ⟨Nat.zero_le _, Nat.zero_le _⟩ [(h_t, .inr (5, [.ref h_t_bytes, .int (x1.2)])), (h_t_bytes, .inl (cI, 39, .inl (x1.1)))] [1, 2] 2 (by decide +kernel) rfl rfl rfl (fun hp1 H locs hP hD hS => ?_)
  refine lv_iconst (v := (0 : Int32)) hx hb dX5_addSplit_6 (by decide) ?_
  refine lv_istore_n (lv' := [(2, .int (0 : Int32)), (0, .ref h_t), (1, .int p0)]) hx hb dX5_addSplit_7 rfl hl (by decide) rfl (fun ls hl => ?_)
  have hK_X5_addSplit_8_33 : ∀  (vK8_33_0 : Nat → Int32) (vK8_33_1 : Int32) (H : Heap) (locs : List Loc) (ls : Array Slot), va_P G vwCl [(h_t, .inr (5, [.ref h_t_bytes, .int vK8_33_1])), (h_t_bytes, .inl (cI, 39, .inl vK8_33_0))] H → va_D A [(h_t, .inr (5, [.ref h_t_bytes, .int vK8_33_1])), (h_t_bytes, .inl (cI, 39, .inl vK8_33_0))] → va_S A s.heap H locs → lv_has ls 3 [] → K_X5_addSplit_8_33 vK8_33_0 vK8_33_1 = some (w0, w1) → W p l e (headSpec wsX5_addSplit ({ frames := 2, cells := 0, slots := 0, locals := 42 })).room s m ([.ref h_t, .int p0] : List Value).toArray below meth c H locs 0 0 (MQ below (va_Qv (fun (_ : Unit) => True) (fun _ t => va_P G vwCl [(h_t, .inr (5, [.ref h_t_bytes, .int w1])), (h_t_bytes, .inl (cI, 39, .inl w0))] t.heap) A) ([.ref h_t, .int p0] : List Value).toArray s 0 0 A) (F0 m 33 ls []) := by
    intro vK8_33_0 vK8_33_1 H locs ls hP hD hS hl h
    unfold K_X5_addSplit_8_33 at h
    have h9 := Option.some.inj h
    have e9 : vK8_33_0 = w0 := congrArg (fun z9 => z9.1) h9
    rw [← e9]
    have e9 : vK8_33_1 = w1 := congrArg (fun z9 => z9.2) h9
    rw [← e9]
    exact k_vret hx hb hr hlocks hP hS dX5_addSplit_33
  have hL8 : ∀ (n8 : Nat) (vL8_0 : Nat → Int32) (vL8_1 : Int32) (vL8_2 : Int32) (H : Heap) (locs : List Loc) (ls : Array Slot), va_P G vwCl [(h_t, .inr (5, [.ref h_t_bytes, .int vL8_1])), (h_t_bytes, .inl (cI, 39, .inl vL8_0))] H → va_D A [(h_t, .inr (5, [.ref h_t_bytes, .int vL8_1])), (h_t_bytes, .inl (cI, 39, .inl vL8_0))] → va_S A s.heap H locs → lv_has ls 3 [(0, .ref h_t), (1, .int p0), (2, .int vL8_2)] → wq3 (B_X5_addSplit_8 p0 K_X5_addSplit_8_33) n8 vL8_0 vL8_1 vL8_2 = some (w0, w1) → W p l e (headSpec wsX5_addSplit ({ frames := 2, cells := 0, slots := 0, locals := 42 })).room s m ([.ref h_t, .int p0] : List Value).toArray below meth c H locs 0 0 (MQ below (va_Qv (fun (_ : Unit) => True) (fun _ t => va_P G vwCl [(h_t, .inr (5, [.ref h_t_bytes, .int w1])), (h_t_bytes, .inl (cI, 39, .inl w0))] t.heap) A) ([.ref h_t, .int p0] : List Value).toArray s 0 0 A) (F0 m 8 ls []) := by
    intro n8
    induction n8 with
    | zero => intro vL8_0 vL8_1 vL8_2 H locs ls hP hD hS hl h; exact wq3_0 h
    | succ n8 ih8 =>
      intro vL8_0 vL8_1 vL8_2 H locs ls hP hD hS hl h
      have h := wq3_s h
      unfold B_X5_addSplit_8 at h
      refine lv_iload_n hx hb dX5_addSplit_8 rfl (lv_at hl 2 rfl) ?_
      refine lv_bipush (v := (6 : Int32)) hx hb dX5_addSplit_9 (by decide) ?_
      refine lv_icmp_ge (tgt := 33) hx hb dX5_addSplit_11 (by decide) (fun c2 => ?_) (fun c2 => ?_)
      · have h := it_p h c2
        exact hK_X5_addSplit_8_33 vL8_0 vL8_1 _ _ _ hP hD hS (lv_sub hl [] rfl) h
      have h := it_n h c2
      refine lv_iload_n hx hb dX5_addSplit_14 rfl (lv_at hl 1 rfl) ?_
      refine lv_iload_n hx hb dX5_addSplit_15 rfl (lv_at hl 2 rfl) ?_
      refine lv_ishr hx hb dX5_addSplit_16 ?_
      refine lv_iconst (v := (1 : Int32)) hx hb dX5_addSplit_17 (by decide) ?_
      refine lv_iand hx hb dX5_addSplit_18 ?_
      refine lv_if_eq (tgt := 27) hx hb dX5_addSplit_19 (by decide) (fun c3 => ?_) (fun c3 => ?_)
      · have h := it_p h c3
        refine lv_iinc (v := (vL8_2 + (1 : Int32))) (lv' := [(2, .int (vL8_2 + (1 : Int32))), (0, .ref h_t), (1, .int p0)]) hx hb dX5_addSplit_27 hl (k := 2) rfl (by first | rfl | decide) (by decide) rfl (fun ls hl => ?_)
        refine lv_goto (tgt := 8) hx hb dX5_addSplit_30 (by decide) ?_
        exact ih8 vL8_0 vL8_1 (vL8_2 + (1 : Int32)) _ _ _ hP hD hS (lv_sub hl [1, 2, 0] rfl) h
      have h := it_n h c3
      refine lv_aload_n hx hb dX5_addSplit_22 rfl (lv_at hl 0 rfl) ?_
      refine lv_iload_n hx hb dX5_addSplit_23 rfl (lv_at hl 2 rfl) ?_
      obtain ⟨x4, hx4, h⟩ := bd_e h
      try dsimp only at h
      refine k_VvM (n := 1) (As := [.int vL8_2]) (rest := []) hx hb hml hown hts (c_X5_addFigure l G cI cJ cD cH H.size h_t h_t_bytes vL8_1 vL8_0 vL8_2 (x4.1) (x4.2) hx4) gX5_addSplit_X5_addFigure rfl rfl rfl (by decide +kernel) ⟨by first | exact Nat.le_of_ble_eq_true rfl | (simp only [headSpec]; omega), by first | exact Nat.le_of_ble_eq_true rfl | (simp only [headSpec]; omega)⟩ hK hP hD hS hA [0, 1] (by decide) rfl rfl (ci := 5) rfl rfl rfl rfl rfl hl.1 (Nat.le_of_ble_eq_true rfl) dX5_addSplit_24 ⟨Nat.zero_le _, Nat.zero_le _⟩ [(h_t, .inr (5, [.ref h_t_bytes, .int (x4.2)])), (h_t_bytes, .inl (cI, 39, .inl (x4.1)))] [1, 2] 2 (by decide +kernel) rfl rfl rfl (fun hp4 H locs hP hD hS => ?_)
      refine lv_iinc (v := (vL8_2 + (1 : Int32))) (lv' := [(2, .int (vL8_2 + (1 : Int32))), (0, .ref h_t), (1, .int p0)]) hx hb dX5_addSplit_27 hl (k := 2) rfl (by first | rfl | decide) (by decide) rfl (fun ls hl => ?_)
      refine lv_goto (tgt := 8) hx hb dX5_addSplit_30 (by decide) ?_
      exact ih8 (x4.1) (x4.2) (vL8_2 + (1 : Int32)) _ _ _ hP hD hS (lv_sub hl [1, 2, 0] rfl) h
  exact hL8 FU (x1.1) (x1.2) (0 : Int32) _ _ _ hP hD hS (lv_sub hl [1, 2, 0] rfl) h

/-! X5_tell -/
set_option maxHeartbeats 4000000 in
set_option maxRecDepth 100000 in
theorem tK_X5_tell_21_54 {l : Launch} {G : va_G} {cI cJ cD cH : ClassId} {h_t : Nat} {h_p0 : Nat} {h_t_bytes : Nat} {h_p0_powers : Nat} {p0_genus : Int32} {p0_size : Int32} {p0_limit : Int32} {p0_tree : Int64} {a_p0_powers : Nat → Int32} {w0 : Nat → Int32} {w1 : Int32} {p : Program} {e : Env} {s : State} {m : MethodId} {below : List Frame} {meth : Method} {c : Code} {A : Nat → Prop} (hx : p.tables.exec = Jvm.exec) (hb : c.code = cX5_tell) (hr : meth.sig.returnType = none) (hml : c.maxLocals = 4) (hts : ∀ w ∈ wsX5_tell, w.before ([.ref h_t, .ref h_p0] : List Value).toArray s = true) (hown : s.vm.findClass RX5 = some m.cls) (hlocks : meth.locks = false) (hK : va_K G vwCl (k_T cI cJ cD cH) s) (hA : ∀ q : Nat, s.heap.size ≤ q → A q) : ∀  (vK21_54_0 : Nat → Int32) (vK21_54_1 : Int32) (H : Heap) (locs : List Loc) (ls : Array Slot), va_P G vwCl [(h_t, .inr (5, [.ref h_t_bytes, .int vK21_54_1])), (h_p0, .inr (1, [.int p0_genus, .int p0_size, .ref h_p0_powers, .int p0_limit, .long p0_tree])), (h_t_bytes, .inl (cI, 39, .inl vK21_54_0)), (h_p0_powers, .inl (cI, 8, .inl a_p0_powers))] H → va_D A [(h_t, .inr (5, [.ref h_t_bytes, .int vK21_54_1])), (h_p0, .inr (1, [.int p0_genus, .int p0_size, .ref h_p0_powers, .int p0_limit, .long p0_tree])), (h_t_bytes, .inl (cI, 39, .inl vK21_54_0)), (h_p0_powers, .inl (cI, 8, .inl a_p0_powers))] → va_S A s.heap H locs → lv_has ls 4 [(0, .ref h_t), (1, .ref h_p0)] → K_X5_tell_21_54 p0_limit p0_tree vK21_54_0 vK21_54_1 = some (w0, w1) → W p l e (headSpec wsX5_tell ({ frames := 3, cells := 0, slots := 0, locals := 64 })).room s m ([.ref h_t, .ref h_p0] : List Value).toArray below meth c H locs 0 0 (MQ below (va_Qv (fun (_ : Unit) => True) (fun _ t => va_P G vwCl [(h_t, .inr (5, [.ref h_t_bytes, .int w1])), (h_p0, .inr (1, [.int p0_genus, .int p0_size, .ref h_p0_powers, .int p0_limit, .long p0_tree])), (h_t_bytes, .inl (cI, 39, .inl w0)), (h_p0_powers, .inl (cI, 8, .inl a_p0_powers))] t.heap) A) ([.ref h_t, .ref h_p0] : List Value).toArray s 0 0 A) (F0 m 54 ls []) := by
  have hta : ∀ w ∈ wA, w.before ([.ref h_t, .ref h_p0] : List Value).toArray s = true := hta_of hts
  have hinX1 : ∀ w ∈ wsX10, w ∈ wsX5_tell := hin_of in_X1
  have hinX5 : ∀ w ∈ wsX50, w ∈ wsX5_tell := hin_of in_X5
  intro vK21_54_0 vK21_54_1 H locs ls hP hD hS hl h
  unfold K_X5_tell_21_54 at h
  refine lv_aload_n hx hb dX5_tell_54 rfl (lv_at hl 0 rfl) ?_
  refine lv_bipush (v := (47 : Int32)) hx hb dX5_tell_55 (by decide) ?_
  obtain ⟨x3, hx3, h⟩ := bd_e h
  try dsimp only at h
  refine k_VvM (n := 1) (As := [.int (47 : Int32)]) (rest := []) hx hb hml hown hts (c_X5_addByte l G cI cJ cD cH H.size h_t h_t_bytes vK21_54_1 vK21_54_0 (47 : Int32) (x3.1) (x3.2) hx3) gX5_tell_X5_addByte rfl rfl rfl (by decide +kernel) ⟨by first | exact Nat.le_of_ble_eq_true rfl | (simp only [headSpec]; omega), by first | exact Nat.le_of_ble_eq_true rfl | (simp only [headSpec]; omega)⟩ hK hP hD hS hA [0, 2] (by decide) rfl rfl (ci := 5) rfl rfl rfl rfl rfl hl.1 (Nat.le_of_ble_eq_true rfl) dX5_tell_57 ⟨Nat.zero_le _, Nat.zero_le _⟩ [(h_t, .inr (5, [.ref h_t_bytes, .int (x3.2)])), (h_p0, .inr (1, [.int p0_genus, .int p0_size, .ref h_p0_powers, .int p0_limit, .long p0_tree])), (h_t_bytes, .inl (cI, 39, .inl (x3.1))), (h_p0_powers, .inl (cI, 8, .inl a_p0_powers))] [1, 0, 2, 0] 2 (by decide +kernel) rfl rfl rfl (fun hp3 H locs hP hD hS => ?_)
  refine lv_aload_n hx hb dX5_tell_60 rfl (lv_at hl 0 rfl) ?_
  refine lv_aload_n hx hb dX5_tell_61 rfl (lv_at hl 1 rfl) ?_
  refine va_get (D := G) (ci := 1) (v := .int p0_limit) (C := RX1) (T := TX1) (N := 5) hx hb hts hinX1 hown hK hP 1 rfl rfl 3 (by decide) (hta _ mw_305) (fun _ h9 => h9) rfl dX5_tell_62 ?_
  obtain ⟨x4, hx4, h⟩ := bd_e h
  try dsimp only at h
  refine k_VvM (n := 1) (As := [.int p0_limit]) (rest := []) hx hb hml hown hts (c_X5_addFigure l G cI cJ cD cH H.size h_t h_t_bytes (x3.2) (x3.1) p0_limit (x4.1) (x4.2) hx4) gX5_tell_X5_addFigure rfl rfl rfl (by decide +kernel) ⟨by first | exact Nat.le_of_ble_eq_true rfl | (simp only [headSpec]; omega), by first | exact Nat.le_of_ble_eq_true rfl | (simp only [headSpec]; omega)⟩ hK hP hD hS hA [0, 2] (by decide) rfl rfl (ci := 5) rfl rfl rfl rfl rfl hl.1 (Nat.le_of_ble_eq_true rfl) dX5_tell_65 ⟨Nat.zero_le _, Nat.zero_le _⟩ [(h_t, .inr (5, [.ref h_t_bytes, .int (x4.2)])), (h_p0, .inr (1, [.int p0_genus, .int p0_size, .ref h_p0_powers, .int p0_limit, .long p0_tree])), (h_t_bytes, .inl (cI, 39, .inl (x4.1))), (h_p0_powers, .inl (cI, 8, .inl a_p0_powers))] [1, 0, 2, 0] 2 (by decide +kernel) rfl rfl rfl (fun hp4 H locs hP hD hS => ?_)
  refine lv_aload_n hx hb dX5_tell_68 rfl (lv_at hl 1 rfl) ?_
  refine va_get (D := G) (ci := 1) (v := .long p0_tree) (C := RX1) (T := TX1) (N := 5) hx hb hts hinX1 hown hK hP 1 rfl rfl 4 (by decide) (hta _ mw_306) (fun _ h9 => h9) rfl dX5_tell_69 ?_
  obtain ⟨x5, hx5, h⟩ := bd_e h
  try dsimp only at h
  refine k_SiU (n := 1) (As := [.long p0_tree]) (rest := []) hx hb hml hown hts (c_X6_sizeOf l G cI cJ cD cH H.size p0_tree x5 hx5) gX5_tell_X6_sizeOf rfl rfl rfl (by decide +kernel) ⟨by first | exact Nat.le_of_ble_eq_true rfl | (simp only [headSpec]; omega), by first | exact Nat.le_of_ble_eq_true rfl | (simp only [headSpec]; omega)⟩ hK hP hD hS hA [] (by decide) rfl rfl rfl hl.1 (Nat.le_of_ble_eq_true rfl) dX5_tell_72 ⟨Nat.zero_le _, Nat.zero_le _⟩ (fun hp5 H locs hP hS => ?_)
  refine lv_istore_n (lv' := [(2, .int x5), (0, .ref h_t), (1, .ref h_p0)]) hx hb dX5_tell_75 rfl hl (by decide) rfl (fun ls hl => ?_)
  refine lv_iconst (v := (0 : Int32)) hx hb dX5_tell_76 (by decide) ?_
  refine lv_istore_n (lv' := [(3, .int (0 : Int32)), (2, .int x5), (0, .ref h_t), (1, .ref h_p0)]) hx hb dX5_tell_77 rfl hl (by decide) rfl (fun ls hl => ?_)
  have hK_X5_tell_78_101 : ∀  (vK78_101_0 : Nat → Int32) (vK78_101_1 : Int32) (H : Heap) (locs : List Loc) (ls : Array Slot), va_P G vwCl [(h_t, .inr (5, [.ref h_t_bytes, .int vK78_101_1])), (h_p0, .inr (1, [.int p0_genus, .int p0_size, .ref h_p0_powers, .int p0_limit, .long p0_tree])), (h_t_bytes, .inl (cI, 39, .inl vK78_101_0)), (h_p0_powers, .inl (cI, 8, .inl a_p0_powers))] H → va_D A [(h_t, .inr (5, [.ref h_t_bytes, .int vK78_101_1])), (h_p0, .inr (1, [.int p0_genus, .int p0_size, .ref h_p0_powers, .int p0_limit, .long p0_tree])), (h_t_bytes, .inl (cI, 39, .inl vK78_101_0)), (h_p0_powers, .inl (cI, 8, .inl a_p0_powers))] → va_S A s.heap H locs → lv_has ls 4 [] → K_X5_tell_78_101 vK78_101_0 vK78_101_1 = some (w0, w1) → W p l e (headSpec wsX5_tell ({ frames := 3, cells := 0, slots := 0, locals := 64 })).room s m ([.ref h_t, .ref h_p0] : List Value).toArray below meth c H locs 0 0 (MQ below (va_Qv (fun (_ : Unit) => True) (fun _ t => va_P G vwCl [(h_t, .inr (5, [.ref h_t_bytes, .int w1])), (h_p0, .inr (1, [.int p0_genus, .int p0_size, .ref h_p0_powers, .int p0_limit, .long p0_tree])), (h_t_bytes, .inl (cI, 39, .inl w0)), (h_p0_powers, .inl (cI, 8, .inl a_p0_powers))] t.heap) A) ([.ref h_t, .ref h_p0] : List Value).toArray s 0 0 A) (F0 m 101 ls []) := by
    intro vK78_101_0 vK78_101_1 H locs ls hP hD hS hl h
    unfold K_X5_tell_78_101 at h
    have h9 := Option.some.inj h
    have e9 : vK78_101_0 = w0 := congrArg (fun z9 => z9.1) h9
    rw [← e9]
    have e9 : vK78_101_1 = w1 := congrArg (fun z9 => z9.2) h9
    rw [← e9]
    exact k_vret hx hb hr hlocks hP hS dX5_tell_101
  have hL78 : ∀ (n78 : Nat) (vL78_0 : Nat → Int32) (vL78_1 : Int32) (vL78_2 : Int32) (H : Heap) (locs : List Loc) (ls : Array Slot), va_P G vwCl [(h_t, .inr (5, [.ref h_t_bytes, .int vL78_1])), (h_p0, .inr (1, [.int p0_genus, .int p0_size, .ref h_p0_powers, .int p0_limit, .long p0_tree])), (h_t_bytes, .inl (cI, 39, .inl vL78_0)), (h_p0_powers, .inl (cI, 8, .inl a_p0_powers))] H → va_D A [(h_t, .inr (5, [.ref h_t_bytes, .int vL78_1])), (h_p0, .inr (1, [.int p0_genus, .int p0_size, .ref h_p0_powers, .int p0_limit, .long p0_tree])), (h_t_bytes, .inl (cI, 39, .inl vL78_0)), (h_p0_powers, .inl (cI, 8, .inl a_p0_powers))] → va_S A s.heap H locs → lv_has ls 4 [(0, .ref h_t), (1, .ref h_p0), (2, .int x5), (3, .int vL78_2)] → wq3 (B_X5_tell_78 p0_tree x5 K_X5_tell_78_101) n78 vL78_0 vL78_1 vL78_2 = some (w0, w1) → W p l e (headSpec wsX5_tell ({ frames := 3, cells := 0, slots := 0, locals := 64 })).room s m ([.ref h_t, .ref h_p0] : List Value).toArray below meth c H locs 0 0 (MQ below (va_Qv (fun (_ : Unit) => True) (fun _ t => va_P G vwCl [(h_t, .inr (5, [.ref h_t_bytes, .int w1])), (h_p0, .inr (1, [.int p0_genus, .int p0_size, .ref h_p0_powers, .int p0_limit, .long p0_tree])), (h_t_bytes, .inl (cI, 39, .inl w0)), (h_p0_powers, .inl (cI, 8, .inl a_p0_powers))] t.heap) A) ([.ref h_t, .ref h_p0] : List Value).toArray s 0 0 A) (F0 m 78 ls []) := by
    intro n78
    induction n78 with
    | zero => intro vL78_0 vL78_1 vL78_2 H locs ls hP hD hS hl h; exact wq3_0 h
    | succ n78 ih78 =>
      intro vL78_0 vL78_1 vL78_2 H locs ls hP hD hS hl h
      have h := wq3_s h
      unfold B_X5_tell_78 at h
      refine lv_iload_n hx hb dX5_tell_78 rfl (lv_at hl 3 rfl) ?_
      refine lv_iload_n hx hb dX5_tell_79 rfl (lv_at hl 2 rfl) ?_
      refine lv_icmp_ge (tgt := 101) hx hb dX5_tell_80 (by decide) (fun c6 => ?_) (fun c6 => ?_)
      · have h := it_p h c6
        exact hK_X5_tell_78_101 vL78_0 vL78_1 _ _ _ hP hD hS (lv_sub hl [] rfl) h
      have h := it_n h c6
      refine lv_aload_n hx hb dX5_tell_83 rfl (lv_at hl 0 rfl) ?_
      refine lv_aload_n hx hb dX5_tell_84 rfl (lv_at hl 1 rfl) ?_
      refine va_get (D := G) (ci := 1) (v := .long p0_tree) (C := RX1) (T := TX1) (N := 5) hx hb hts hinX1 hown hK hP 1 rfl rfl 4 (by decide) (hta _ mw_306) (fun _ h9 => h9) rfl dX5_tell_85 ?_
      refine lv_iload_n hx hb dX5_tell_88 rfl (lv_at hl 3 rfl) ?_
      obtain ⟨x7, hx7, h⟩ := bd_e h
      try dsimp only at h
      refine k_SiU (n := 2) (As := [.long p0_tree, .int vL78_2]) (rest := [.ref h_t]) hx hb hml hown hts (c_X6_nth l G cI cJ cD cH H.size p0_tree vL78_2 x7 hx7) gX5_tell_X6_nth rfl rfl rfl (by decide +kernel) ⟨by first | exact Nat.le_of_ble_eq_true rfl | (simp only [headSpec]; omega), by first | exact Nat.le_of_ble_eq_true rfl | (simp only [headSpec]; omega)⟩ hK hP hD hS hA [] (by decide) rfl rfl rfl hl.1 (Nat.le_of_ble_eq_true rfl) dX5_tell_89 ⟨Nat.zero_le _, Nat.zero_le _⟩ (fun hp7 H locs hP hS => ?_)
      obtain ⟨x8, hx8, h⟩ := bd_e h
      try dsimp only at h
      refine k_VvM (n := 1) (As := [.int x7]) (rest := []) hx hb hml hown hts (c_X5_addSplit l G cI cJ cD cH H.size h_t h_t_bytes vL78_1 vL78_0 x7 (x8.1) (x8.2) hx8) gX5_tell_X5_addSplit rfl rfl rfl (by decide +kernel) ⟨by first | exact Nat.le_of_ble_eq_true rfl | (simp only [headSpec]; omega), by first | exact Nat.le_of_ble_eq_true rfl | (simp only [headSpec]; omega)⟩ hK hP hD hS hA [0, 2] (by decide) rfl rfl (ci := 5) rfl rfl rfl rfl rfl hl.1 (Nat.le_of_ble_eq_true rfl) dX5_tell_92 ⟨Nat.zero_le _, Nat.zero_le _⟩ [(h_t, .inr (5, [.ref h_t_bytes, .int (x8.2)])), (h_p0, .inr (1, [.int p0_genus, .int p0_size, .ref h_p0_powers, .int p0_limit, .long p0_tree])), (h_t_bytes, .inl (cI, 39, .inl (x8.1))), (h_p0_powers, .inl (cI, 8, .inl a_p0_powers))] [1, 0, 2, 0] 2 (by decide +kernel) rfl rfl rfl (fun hp8 H locs hP hD hS => ?_)
      refine lv_iinc (v := (vL78_2 + (1 : Int32))) (lv' := [(3, .int (vL78_2 + (1 : Int32))), (0, .ref h_t), (1, .ref h_p0), (2, .int x5)]) hx hb dX5_tell_95 hl (k := 3) rfl (by first | rfl | decide) (by decide) rfl (fun ls hl => ?_)
      refine lv_goto (tgt := 78) hx hb dX5_tell_98 (by decide) ?_
      exact ih78 (x8.1) (x8.2) (vL78_2 + (1 : Int32)) _ _ _ hP hD hS (lv_sub hl [1, 2, 3, 0] rfl) h
  exact hL78 FU (x4.1) (x4.2) (0 : Int32) _ _ _ hP hD hS (lv_sub hl [2, 3, 1, 0] rfl) h
set_option maxHeartbeats 4000000 in
set_option maxRecDepth 100000 in
theorem c_X5_tell (l : Launch) (G : va_G) (cI cJ cD cH : ClassId) (sz : Nat) (h_t : Nat) (h_p0 : Nat) (h_t_bytes : Nat) (h_p0_powers : Nat) (t_size : Int32) (p0_genus : Int32) (p0_size : Int32) (p0_limit : Int32) (p0_tree : Int64) (a_t_bytes : Nat → Int32) (a_p0_powers : Nat → Int32) (w0 : Nat → Int32) (w1 : Int32) (hF : F_X5_tell p0_genus p0_size p0_limit p0_tree a_t_bytes a_p0_powers = some (w0, w1)) : Met l yX5_tell wsX5_tell ({ frames := 3, cells := 0, slots := 0, locals := 64 }) (k_pre G (k_T cI cJ cD cH) [(h_t, .inr (5, [.ref h_t_bytes, .int t_size])), (h_p0, .inr (1, [.int p0_genus, .int p0_size, .ref h_p0_powers, .int p0_limit, .long p0_tree])), (h_t_bytes, .inl (cI, 39, .inl a_t_bytes)), (h_p0_powers, .inl (cI, 8, .inl a_p0_powers))] sz [.ref h_t, .ref h_p0]) (va_Qv (fun (_ : Unit) => True) (fun _ t => va_P G vwCl [(h_t, .inr (5, [.ref h_t_bytes, .int w1])), (h_p0, .inr (1, [.int p0_genus, .int p0_size, .ref h_p0_powers, .int p0_limit, .long p0_tree])), (h_t_bytes, .inl (cI, 39, .inl w0)), (h_p0_powers, .inl (cI, 8, .inl a_p0_powers))] t.heap) (va_A [(h_t, .inr (5, [.ref h_t_bytes, .int t_size])), (h_p0, .inr (1, [.int p0_genus, .int p0_size, .ref h_p0_powers, .int p0_limit, .long p0_tree])), (h_t_bytes, .inl (cI, 39, .inl a_t_bytes)), (h_p0_powers, .inl (cI, 8, .inl a_p0_powers))] sz)) 0 0 (va_A [(h_t, .inr (5, [.ref h_t_bytes, .int t_size])), (h_p0, .inr (1, [.int p0_genus, .int p0_size, .ref h_p0_powers, .int p0_limit, .long p0_tree])), (h_t_bytes, .inl (cI, 39, .inl a_t_bytes)), (h_p0_powers, .inl (cI, 8, .inl a_p0_powers))] sz) := by
  refine Met.ofW (cc := cX5_tell) (maxL := 4) (ret := none) (by decide) rfl ?_
  intro p e s m args below meth c s₁ B hml hv
  obtain ⟨rfl, hsz, hP, hK, hD0⟩ := hv
  have hx := B.exec
  have hb := B.bytes
  have hr := B.returns
  have hts := atoms_spec (ws := wsX5_tell) B.pre
  have hta : ∀ w ∈ wA, w.before ([.ref h_t, .ref h_p0] : List Value).toArray s = true := hta_of hts
  have hown : s.vm.findClass RX5 = some m.cls := findClass_of_methodNamed B.named
  have hlocks := B.notSynchronized
  subst hsz
  have hD := hD0.self (sz := s.heap.size)
  generalize hAe : va_A [(h_t, .inr (5, [.ref h_t_bytes, .int t_size])), (h_p0, .inr (1, [.int p0_genus, .int p0_size, .ref h_p0_powers, .int p0_limit, .long p0_tree])), (h_t_bytes, .inl (cI, 39, .inl a_t_bytes)), (h_p0_powers, .inl (cI, 8, .inl a_p0_powers))] s.heap.size = A at hD ⊢
  have hA : ∀ q : Nat, s.heap.size ≤ q → A q := fun q h => by rw [← hAe]; exact Or.inr h
  have hS : va_S A s.heap s.heap [] := va_S.rf
  have hl := lv_entry ([.ref h_t, .ref h_p0]) (n := 4) (Nat.le_of_ble_eq_true rfl)
  rw [lg_entry_eq]
  generalize (lg_sl ([.ref h_t, .ref h_p0]) ++ List.replicate (4 - (lg_sl ([.ref h_t, .ref h_p0])).length) Slot.unset).toArray = ls at hl ⊢
  have hl : lv_has ls 4 [(0, .ref h_t), (1, .ref h_p0)] := hl
  have hinX1 : ∀ w ∈ wsX10, w ∈ wsX5_tell := hin_of in_X1
  have hinX5 : ∀ w ∈ wsX50, w ∈ wsX5_tell := hin_of in_X5
  have h := hF
  unfold F_X5_tell at h
  refine lv_aload_n hx hb dX5_tell_0 rfl (lv_at hl 0 rfl) ?_
  refine lv_iconst (v := (0 : Int32)) hx hb dX5_tell_1 (by decide) ?_
  refine va_put (D := G) (ci := 5) (v := .int (0 : Int32)) (ty := .int) (C := RX5) (T := TX5) (N := 2) hx hb hts hinX5 tyX5 tyX5_ok nmX5 hown hK hP hD hS 0 rfl rfl 1 (by decide) (hta _ mw_301) (fun _ h9 => h9) rfl (by decide +kernel) rfl rfl (Nat.le_of_ble_eq_true rfl) dX5_tell_2 (fun H locs hP hD hS => ?_)
  have hP : va_P G vwCl [(h_t, .inr (5, [.ref h_t_bytes, .int (0 : Int32)])), (h_p0, .inr (1, [.int p0_genus, .int p0_size, .ref h_p0_powers, .int p0_limit, .long p0_tree])), (h_t_bytes, .inl (cI, 39, .inl a_t_bytes)), (h_p0_powers, .inl (cI, 8, .inl a_p0_powers))] H := hP
  have hD : va_D A [(h_t, .inr (5, [.ref h_t_bytes, .int (0 : Int32)])), (h_p0, .inr (1, [.int p0_genus, .int p0_size, .ref h_p0_powers, .int p0_limit, .long p0_tree])), (h_t_bytes, .inl (cI, 39, .inl a_t_bytes)), (h_p0_powers, .inl (cI, 8, .inl a_p0_powers))] := hD
  refine lv_aload_n hx hb dX5_tell_5 rfl (lv_at hl 0 rfl) ?_
  refine lv_aload_n hx hb dX5_tell_6 rfl (lv_at hl 1 rfl) ?_
  refine va_get (D := G) (ci := 1) (v := .int p0_genus) (C := RX1) (T := TX1) (N := 5) hx hb hts hinX1 hown hK hP 1 rfl rfl 0 (by decide) (hta _ mw_303) (fun _ h9 => h9) rfl dX5_tell_7 ?_
  obtain ⟨x1, hx1, h⟩ := bd_e h
  try dsimp only at h
  refine k_VvM (n := 1) (As := [.int p0_genus]) (rest := []) hx hb hml hown hts (c_X5_addFigure l G cI cJ cD cH H.size h_t h_t_bytes (0 : Int32) a_t_bytes p0_genus (x1.1) (x1.2) hx1) gX5_tell_X5_addFigure rfl rfl rfl (by decide +kernel) ⟨by first | exact Nat.le_of_ble_eq_true rfl | (simp only [headSpec]; omega), by first | exact Nat.le_of_ble_eq_true rfl | (simp only [headSpec]; omega)⟩ hK hP hD hS hA [0, 2] (by decide) rfl rfl (ci := 5) rfl rfl rfl rfl rfl hl.1 (Nat.le_of_ble_eq_true rfl) dX5_tell_10 ⟨Nat.zero_le _, Nat.zero_le _⟩ [(h_t, .inr (5, [.ref h_t_bytes, .int (x1.2)])), (h_p0, .inr (1, [.int p0_genus, .int p0_size, .ref h_p0_powers, .int p0_limit, .long p0_tree])), (h_t_bytes, .inl (cI, 39, .inl (x1.1))), (h_p0_powers, .inl (cI, 8, .inl a_p0_powers))] [1, 0, 2, 0] 2 (by decide +kernel) rfl rfl rfl (fun hp1 H locs hP hD hS => ?_)
  refine lv_aload_n hx hb dX5_tell_13 rfl (lv_at hl 0 rfl) ?_
  refine lv_bipush (v := (58 : Int32)) hx hb dX5_tell_14 (by decide) ?_
  obtain ⟨x2, hx2, h⟩ := bd_e h
  try dsimp only at h
  refine k_VvM (n := 1) (As := [.int (58 : Int32)]) (rest := []) hx hb hml hown hts (c_X5_addByte l G cI cJ cD cH H.size h_t h_t_bytes (x1.2) (x1.1) (58 : Int32) (x2.1) (x2.2) hx2) gX5_tell_X5_addByte rfl rfl rfl (by decide +kernel) ⟨by first | exact Nat.le_of_ble_eq_true rfl | (simp only [headSpec]; omega), by first | exact Nat.le_of_ble_eq_true rfl | (simp only [headSpec]; omega)⟩ hK hP hD hS hA [0, 2] (by decide) rfl rfl (ci := 5) rfl rfl rfl rfl rfl hl.1 (Nat.le_of_ble_eq_true rfl) dX5_tell_16 ⟨Nat.zero_le _, Nat.zero_le _⟩ [(h_t, .inr (5, [.ref h_t_bytes, .int (x2.2)])), (h_p0, .inr (1, [.int p0_genus, .int p0_size, .ref h_p0_powers, .int p0_limit, .long p0_tree])), (h_t_bytes, .inl (cI, 39, .inl (x2.1))), (h_p0_powers, .inl (cI, 8, .inl a_p0_powers))] [1, 0, 2, 0] 2 (by decide +kernel) rfl rfl rfl (fun hp2 H locs hP hD hS => ?_)
  refine lv_iconst (v := (0 : Int32)) hx hb dX5_tell_19 (by decide) ?_
  refine lv_istore_n (lv' := [(2, .int (0 : Int32)), (0, .ref h_t), (1, .ref h_p0)]) hx hb dX5_tell_20 rfl hl (by decide) rfl (fun ls hl => ?_)
  have hL21 : ∀ (n21 : Nat) (vL21_0 : Nat → Int32) (vL21_1 : Int32) (vL21_2 : Int32) (H : Heap) (locs : List Loc) (ls : Array Slot), va_P G vwCl [(h_t, .inr (5, [.ref h_t_bytes, .int vL21_1])), (h_p0, .inr (1, [.int p0_genus, .int p0_size, .ref h_p0_powers, .int p0_limit, .long p0_tree])), (h_t_bytes, .inl (cI, 39, .inl vL21_0)), (h_p0_powers, .inl (cI, 8, .inl a_p0_powers))] H → va_D A [(h_t, .inr (5, [.ref h_t_bytes, .int vL21_1])), (h_p0, .inr (1, [.int p0_genus, .int p0_size, .ref h_p0_powers, .int p0_limit, .long p0_tree])), (h_t_bytes, .inl (cI, 39, .inl vL21_0)), (h_p0_powers, .inl (cI, 8, .inl a_p0_powers))] → va_S A s.heap H locs → lv_has ls 4 [(0, .ref h_t), (1, .ref h_p0), (2, .int vL21_2)] → wq3 (B_X5_tell_21 p0_size a_p0_powers (K_X5_tell_21_54 p0_limit p0_tree)) n21 vL21_0 vL21_1 vL21_2 = some (w0, w1) → W p l e (headSpec wsX5_tell ({ frames := 3, cells := 0, slots := 0, locals := 64 })).room s m ([.ref h_t, .ref h_p0] : List Value).toArray below meth c H locs 0 0 (MQ below (va_Qv (fun (_ : Unit) => True) (fun _ t => va_P G vwCl [(h_t, .inr (5, [.ref h_t_bytes, .int w1])), (h_p0, .inr (1, [.int p0_genus, .int p0_size, .ref h_p0_powers, .int p0_limit, .long p0_tree])), (h_t_bytes, .inl (cI, 39, .inl w0)), (h_p0_powers, .inl (cI, 8, .inl a_p0_powers))] t.heap) A) ([.ref h_t, .ref h_p0] : List Value).toArray s 0 0 A) (F0 m 21 ls []) := by
    intro n21
    induction n21 with
    | zero => intro vL21_0 vL21_1 vL21_2 H locs ls hP hD hS hl h; exact wq3_0 h
    | succ n21 ih21 =>
      intro vL21_0 vL21_1 vL21_2 H locs ls hP hD hS hl h
      have h := wq3_s h
      unfold B_X5_tell_21 at h
      refine lv_iload_n hx hb dX5_tell_21 rfl (lv_at hl 2 rfl) ?_
      refine lv_aload_n hx hb dX5_tell_22 rfl (lv_at hl 1 rfl) ?_
      refine va_get (D := G) (ci := 1) (v := .int p0_size) (C := RX1) (T := TX1) (N := 5) hx hb hts hinX1 hown hK hP 1 rfl rfl 1 (by decide) (hta _ mw_304) (fun _ h9 => h9) rfl dX5_tell_23 ?_
      refine lv_icmp_ge (tgt := 54) hx hb dX5_tell_26 (by decide) (fun c9 => ?_) (fun c9 => ?_)
      · have h := it_p h c9
        exact tK_X5_tell_21_54 hx hb hr hml hts hown hlocks hK hA vL21_0 vL21_1 _ _ _ hP hD hS (lv_sub hl [0, 1] rfl) h
      have h := it_n h c9
      refine lv_iload_n hx hb dX5_tell_29 rfl (lv_at hl 2 rfl) ?_
      have hJ_X5_tell_39 : ∀  (vJ39_0 : Nat → Int32) (vJ39_1 : Int32) (H : Heap) (locs : List Loc) (ls : Array Slot), va_P G vwCl [(h_t, .inr (5, [.ref h_t_bytes, .int vJ39_1])), (h_p0, .inr (1, [.int p0_genus, .int p0_size, .ref h_p0_powers, .int p0_limit, .long p0_tree])), (h_t_bytes, .inl (cI, 39, .inl vJ39_0)), (h_p0_powers, .inl (cI, 8, .inl a_p0_powers))] H → va_D A [(h_t, .inr (5, [.ref h_t_bytes, .int vJ39_1])), (h_p0, .inr (1, [.int p0_genus, .int p0_size, .ref h_p0_powers, .int p0_limit, .long p0_tree])), (h_t_bytes, .inl (cI, 39, .inl vJ39_0)), (h_p0_powers, .inl (cI, 8, .inl a_p0_powers))] → va_S A s.heap H locs → lv_has ls 4 [(0, .ref h_t), (1, .ref h_p0), (2, .int vL21_2)] → J_X5_tell_39 a_p0_powers vL21_2 (wq3 (B_X5_tell_21 p0_size a_p0_powers (K_X5_tell_21_54 p0_limit p0_tree)) n21) vJ39_0 vJ39_1 = some (w0, w1) → W p l e (headSpec wsX5_tell ({ frames := 3, cells := 0, slots := 0, locals := 64 })).room s m ([.ref h_t, .ref h_p0] : List Value).toArray below meth c H locs 0 0 (MQ below (va_Qv (fun (_ : Unit) => True) (fun _ t => va_P G vwCl [(h_t, .inr (5, [.ref h_t_bytes, .int w1])), (h_p0, .inr (1, [.int p0_genus, .int p0_size, .ref h_p0_powers, .int p0_limit, .long p0_tree])), (h_t_bytes, .inl (cI, 39, .inl w0)), (h_p0_powers, .inl (cI, 8, .inl a_p0_powers))] t.heap) A) ([.ref h_t, .ref h_p0] : List Value).toArray s 0 0 A) (F0 m 39 ls []) := by
        intro vJ39_0 vJ39_1 H locs ls hP hD hS hl h
        unfold J_X5_tell_39 at h
        refine lv_aload_n hx hb dX5_tell_39 rfl (lv_at hl 0 rfl) ?_
        refine lv_aload_n hx hb dX5_tell_40 rfl (lv_at hl 1 rfl) ?_
        refine lv_iload_n hx hb dX5_tell_41 rfl (lv_at hl 2 rfl) ?_
        obtain ⟨x10, hx10, h⟩ := bd_e h
        try dsimp only at h
        refine k_ViU (n := 1) (As := [.int vL21_2]) (rest := [.ref h_t]) hx hb hml hown hts (c_X1_powerAt l G cI cJ cD cH H.size h_p0 h_p0_powers p0_genus p0_size p0_limit p0_tree a_p0_powers vL21_2 x10 hx10) gX5_tell_X1_powerAt rfl rfl rfl (by decide +kernel) ⟨by first | exact Nat.le_of_ble_eq_true rfl | (simp only [headSpec]; omega), by first | exact Nat.le_of_ble_eq_true rfl | (simp only [headSpec]; omega)⟩ hK hP hD hS hA [1, 3] (by decide) rfl (ci := 1) rfl rfl rfl rfl rfl hl.1 (Nat.le_of_ble_eq_true rfl) dX5_tell_42 ⟨Nat.zero_le _, Nat.zero_le _⟩ (fun hp10 H locs hP hS => ?_)
        obtain ⟨x11, hx11, h⟩ := bd_e h
        try dsimp only at h
        refine k_VvM (n := 1) (As := [.int x10]) (rest := []) hx hb hml hown hts (c_X5_addPower l G cI cJ cD cH H.size h_t h_t_bytes vJ39_1 vJ39_0 x10 (x11.1) (x11.2) hx11) gX5_tell_X5_addPower rfl rfl rfl (by decide +kernel) ⟨by first | exact Nat.le_of_ble_eq_true rfl | (simp only [headSpec]; omega), by first | exact Nat.le_of_ble_eq_true rfl | (simp only [headSpec]; omega)⟩ hK hP hD hS hA [0, 2] (by decide) rfl rfl (ci := 5) rfl rfl rfl rfl rfl hl.1 (Nat.le_of_ble_eq_true rfl) dX5_tell_45 ⟨Nat.zero_le _, Nat.zero_le _⟩ [(h_t, .inr (5, [.ref h_t_bytes, .int (x11.2)])), (h_p0, .inr (1, [.int p0_genus, .int p0_size, .ref h_p0_powers, .int p0_limit, .long p0_tree])), (h_t_bytes, .inl (cI, 39, .inl (x11.1))), (h_p0_powers, .inl (cI, 8, .inl a_p0_powers))] [1, 0, 2, 0] 2 (by decide +kernel) rfl rfl rfl (fun hp11 H locs hP hD hS => ?_)
        refine lv_iinc (v := (vL21_2 + (1 : Int32))) (lv' := [(2, .int (vL21_2 + (1 : Int32))), (0, .ref h_t), (1, .ref h_p0)]) hx hb dX5_tell_48 hl (k := 2) rfl (by first | rfl | decide) (by decide) rfl (fun ls hl => ?_)
        refine lv_goto (tgt := 21) hx hb dX5_tell_51 (by decide) ?_
        exact ih21 (x11.1) (x11.2) (vL21_2 + (1 : Int32)) _ _ _ hP hD hS (lv_sub hl [1, 2, 0] rfl) h
      refine lv_if_le (tgt := 39) hx hb dX5_tell_30 (by decide) (fun c12 => ?_) (fun c12 => ?_)
      · have h := it_p h c12
        exact hJ_X5_tell_39 vL21_0 vL21_1 _ _ _ hP hD hS (lv_sub hl [0, 1, 2] rfl) h
      have h := it_n h c12
      refine lv_aload_n hx hb dX5_tell_33 rfl (lv_at hl 0 rfl) ?_
      refine lv_bipush (v := (44 : Int32)) hx hb dX5_tell_34 (by decide) ?_
      obtain ⟨x13, hx13, h⟩ := bd_e h
      try dsimp only at h
      refine k_VvM (n := 1) (As := [.int (44 : Int32)]) (rest := []) hx hb hml hown hts (c_X5_addByte l G cI cJ cD cH H.size h_t h_t_bytes vL21_1 vL21_0 (44 : Int32) (x13.1) (x13.2) hx13) gX5_tell_X5_addByte rfl rfl rfl (by decide +kernel) ⟨by first | exact Nat.le_of_ble_eq_true rfl | (simp only [headSpec]; omega), by first | exact Nat.le_of_ble_eq_true rfl | (simp only [headSpec]; omega)⟩ hK hP hD hS hA [0, 2] (by decide) rfl rfl (ci := 5) rfl rfl rfl rfl rfl hl.1 (Nat.le_of_ble_eq_true rfl) dX5_tell_36 ⟨Nat.zero_le _, Nat.zero_le _⟩ [(h_t, .inr (5, [.ref h_t_bytes, .int (x13.2)])), (h_p0, .inr (1, [.int p0_genus, .int p0_size, .ref h_p0_powers, .int p0_limit, .long p0_tree])), (h_t_bytes, .inl (cI, 39, .inl (x13.1))), (h_p0_powers, .inl (cI, 8, .inl a_p0_powers))] [1, 0, 2, 0] 2 (by decide +kernel) rfl rfl rfl (fun hp13 H locs hP hD hS => ?_)
      exact hJ_X5_tell_39 (x13.1) (x13.2) _ _ _ hP hD hS (lv_sub hl [0, 1, 2] rfl) h
  exact hL21 FU (x2.1) (x2.2) (0 : Int32) _ _ _ hP hD hS (lv_sub hl [1, 2, 0] rfl) h

/-! X6_has -/
set_option maxHeartbeats 4000000 in
set_option maxRecDepth 100000 in
theorem c_X6_has (l : Launch) (G : va_G) (cI cJ cD cH : ClassId) (sz : Nat) (p0 : Int64) (p1 : Int32) (r0 : Int32) (hF : F_X6_has p0 p1 = some r0) : Met l yX6_has wsX6_has ({ frames := 0, cells := 0, slots := 0, locals := 0 }) (k_pre G (k_T cI cJ cD cH) [] sz [.long p0, .int p1]) (va_Qi (fun r (_ : Unit) => r = r0 ∧ narrow .boolean (.int r0) = .int r0) (fun _ t => va_P G vwCl [] t.heap) (va_A [] sz)) 0 0 (va_A [] sz) := by
  refine Met.ofW (cc := cX6_has) (maxL := 3) (ret := (some .boolean)) (by decide) rfl ?_
  intro p e s m args below meth c s₁ B hml hv
  obtain ⟨rfl, hsz, hP, hK, hD0⟩ := hv
  have hx := B.exec
  have hb := B.bytes
  have hr := B.returns
  have hts := atoms_spec (ws := wsX6_has) B.pre
  have hta : ∀ w ∈ wA, w.before ([.long p0, .int p1] : List Value).toArray s = true := hta_of hts
  have hown : s.vm.findClass RX6 = some m.cls := findClass_of_methodNamed B.named
  have hlocks := B.notSynchronized
  subst hsz
  have hD := hD0.self (sz := s.heap.size)
  generalize hAe : va_A [] s.heap.size = A at hD ⊢
  have hA : ∀ q : Nat, s.heap.size ≤ q → A q := fun q h => by rw [← hAe]; exact Or.inr h
  have hS : va_S A s.heap s.heap [] := va_S.rf
  have hl := lv_entry ([.long p0, .int p1]) (n := 3) (Nat.le_of_ble_eq_true rfl)
  rw [lg_entry_eq]
  generalize (lg_sl ([.long p0, .int p1]) ++ List.replicate (3 - (lg_sl ([.long p0, .int p1])).length) Slot.unset).toArray = ls at hl ⊢
  have hl : lv_has ls 3 [(0, .long p0), (2, .int p1)] := hl
  have h := hF
  unfold F_X6_has at h
  refine lv_iload_n hx hb dX6_has_0 rfl (lv_at hl 1 rfl) ?_
  refine lv_if_lt (tgt := 24) hx hb dX6_has_1 (by decide) (fun c1 => ?_) (fun c1 => ?_)
  · have h := it_p h c1
    refine lv_iconst (v := (0 : Int32)) hx hb dX6_has_24 (by decide) ?_
    have h9 := Option.some.inj h
    have e9 : (0 : Int32) = r0 := congrArg (fun z9 => z9) h9
    rw [← e9]
    exact k_zret hx hb hr hlocks hP hS rfl rfl dX6_has_25
  have h := it_n h c1
  refine lv_iload_n hx hb dX6_has_4 rfl (lv_at hl 1 rfl) ?_
  refine lv_bipush (v := (63 : Int32)) hx hb dX6_has_5 (by decide) ?_
  refine lv_icmp_gt (tgt := 24) hx hb dX6_has_7 (by decide) (fun c2 => ?_) (fun c2 => ?_)
  · have h := it_p h c2
    refine lv_iconst (v := (0 : Int32)) hx hb dX6_has_24 (by decide) ?_
    have h9 := Option.some.inj h
    have e9 : (0 : Int32) = r0 := congrArg (fun z9 => z9) h9
    rw [← e9]
    exact k_zret hx hb hr hlocks hP hS rfl rfl dX6_has_25
  have h := it_n h c2
  refine lv_lload_n hx hb dX6_has_10 rfl (lv_at hl 0 rfl) ?_
  refine lv_iload_n hx hb dX6_has_11 rfl (lv_at hl 1 rfl) ?_
  refine lv_lushr (v := (lush p0 p1)) hx hb dX6_has_12 rfl ?_
  refine lv_lconst (v := (1 : Int64)) hx hb dX6_has_13 (by decide) ?_
  refine lv_land hx hb dX6_has_14 ?_
  refine lv_lconst (v := (0 : Int64)) hx hb dX6_has_15 (by decide) ?_
  refine W.lcmp hx hb dX6_has_16 ?_
  refine lv_if_eq (tgt := 24) hx hb dX6_has_17 (by decide) (fun c3 => ?_) (fun c3 => ?_)
  · have h := it_p h c3
    refine lv_iconst (v := (0 : Int32)) hx hb dX6_has_24 (by decide) ?_
    have h9 := Option.some.inj h
    have e9 : (0 : Int32) = r0 := congrArg (fun z9 => z9) h9
    rw [← e9]
    exact k_zret hx hb hr hlocks hP hS rfl rfl dX6_has_25
  have h := it_n h c3
  refine lv_iconst (v := (1 : Int32)) hx hb dX6_has_20 (by decide) ?_
  refine lv_goto (tgt := 25) hx hb dX6_has_21 (by decide) ?_
  have h9 := Option.some.inj h
  have e9 : (1 : Int32) = r0 := congrArg (fun z9 => z9) h9
  rw [← e9]
  exact k_zret hx hb hr hlocks hP hS rfl rfl dX6_has_25

/-! X6_without -/
set_option maxHeartbeats 4000000 in
set_option maxRecDepth 100000 in
theorem c_X6_without (l : Launch) (G : va_G) (cI cJ cD cH : ClassId) (sz : Nat) (p0 : Int64) (p1 : Int32) (r0 : Int64) (hF : F_X6_without p0 p1 = some r0) : Met l yX6_without wsX6_without ({ frames := 0, cells := 0, slots := 0, locals := 0 }) (k_pre G (k_T cI cJ cD cH) [] sz [.long p0, .int p1]) (va_Ql (fun r (_ : Unit) => r = r0 ∧ True) (fun _ t => va_P G vwCl [] t.heap) (va_A [] sz)) 0 0 (va_A [] sz) := by
  refine Met.ofW (cc := cX6_without) (maxL := 3) (ret := (some .long)) (by decide) rfl ?_
  intro p e s m args below meth c s₁ B hml hv
  obtain ⟨rfl, hsz, hP, hK, hD0⟩ := hv
  have hx := B.exec
  have hb := B.bytes
  have hr := B.returns
  have hts := atoms_spec (ws := wsX6_without) B.pre
  have hta : ∀ w ∈ wA, w.before ([.long p0, .int p1] : List Value).toArray s = true := hta_of hts
  have hown : s.vm.findClass RX6 = some m.cls := findClass_of_methodNamed B.named
  have hlocks := B.notSynchronized
  subst hsz
  have hD := hD0.self (sz := s.heap.size)
  generalize hAe : va_A [] s.heap.size = A at hD ⊢
  have hA : ∀ q : Nat, s.heap.size ≤ q → A q := fun q h => by rw [← hAe]; exact Or.inr h
  have hS : va_S A s.heap s.heap [] := va_S.rf
  have hl := lv_entry ([.long p0, .int p1]) (n := 3) (Nat.le_of_ble_eq_true rfl)
  rw [lg_entry_eq]
  generalize (lg_sl ([.long p0, .int p1]) ++ List.replicate (3 - (lg_sl ([.long p0, .int p1])).length) Slot.unset).toArray = ls at hl ⊢
  have hl : lv_has ls 3 [(0, .long p0), (2, .int p1)] := hl
  have h := hF
  unfold F_X6_without at h
  refine lv_iload_n hx hb dX6_without_0 rfl (lv_at hl 1 rfl) ?_
  refine lv_if_lt (tgt := 22) hx hb dX6_without_1 (by decide) (fun c1 => ?_) (fun c1 => ?_)
  · have h := it_p h c1
    refine lv_lload_n hx hb dX6_without_22 rfl (lv_at hl 0 rfl) ?_
    have h9 := Option.some.inj h
    have e9 : p0 = r0 := congrArg (fun z9 => z9) h9
    rw [← e9]
    exact k_lret hx hb hr hlocks hP hS rfl dX6_without_23
  have h := it_n h c1
  refine lv_iload_n hx hb dX6_without_4 rfl (lv_at hl 1 rfl) ?_
  refine lv_bipush (v := (63 : Int32)) hx hb dX6_without_5 (by decide) ?_
  refine lv_icmp_gt (tgt := 22) hx hb dX6_without_7 (by decide) (fun c2 => ?_) (fun c2 => ?_)
  · have h := it_p h c2
    refine lv_lload_n hx hb dX6_without_22 rfl (lv_at hl 0 rfl) ?_
    have h9 := Option.some.inj h
    have e9 : p0 = r0 := congrArg (fun z9 => z9) h9
    rw [← e9]
    exact k_lret hx hb hr hlocks hP hS rfl dX6_without_23
  have h := it_n h c2
  refine lv_lload_n hx hb dX6_without_10 rfl (lv_at hl 0 rfl) ?_
  refine lv_lconst (v := (1 : Int64)) hx hb dX6_without_11 (by decide) ?_
  refine lv_iload_n hx hb dX6_without_12 rfl (lv_at hl 1 rfl) ?_
  refine lv_lshl (v := (lshl (1 : Int64) p1)) hx hb dX6_without_13 rfl ?_
  refine lv_ldc2 (v := (-1 : Int64)) hx hb hown (hta _ mw_329) dX6_without_14 ?_
  refine lv_lxor hx hb dX6_without_17 ?_
  refine lv_land hx hb dX6_without_18 ?_
  refine lv_goto (tgt := 23) hx hb dX6_without_19 (by decide) ?_
  have h9 := Option.some.inj h
  have e9 : (p0 &&& ((lshl (1 : Int64) p1) ^^^ (-1 : Int64))) = r0 := congrArg (fun z9 => z9) h9
  rw [← e9]
  exact k_lret hx hb hr hlocks hP hS rfl dX6_without_23

/-! X6_isWithin -/
set_option maxHeartbeats 4000000 in
set_option maxRecDepth 100000 in
theorem c_X6_isWithin (l : Launch) (G : va_G) (cI cJ cD cH : ClassId) (sz : Nat) (p0 : Int32) (p1 : Int32) (r0 : Int32) (hF : F_X6_isWithin p0 p1 = some r0) : Met l yX6_isWithin wsX6_isWithin ({ frames := 0, cells := 0, slots := 0, locals := 0 }) (k_pre G (k_T cI cJ cD cH) [] sz [.int p0, .int p1]) (va_Qi (fun r (_ : Unit) => r = r0 ∧ narrow .boolean (.int r0) = .int r0) (fun _ t => va_P G vwCl [] t.heap) (va_A [] sz)) 0 0 (va_A [] sz) := by
  refine Met.ofW (cc := cX6_isWithin) (maxL := 2) (ret := (some .boolean)) (by decide) rfl ?_
  intro p e s m args below meth c s₁ B hml hv
  obtain ⟨rfl, hsz, hP, hK, hD0⟩ := hv
  have hx := B.exec
  have hb := B.bytes
  have hr := B.returns
  have hts := atoms_spec (ws := wsX6_isWithin) B.pre
  have hta : ∀ w ∈ wA, w.before ([.int p0, .int p1] : List Value).toArray s = true := hta_of hts
  have hown : s.vm.findClass RX6 = some m.cls := findClass_of_methodNamed B.named
  have hlocks := B.notSynchronized
  subst hsz
  have hD := hD0.self (sz := s.heap.size)
  generalize hAe : va_A [] s.heap.size = A at hD ⊢
  have hA : ∀ q : Nat, s.heap.size ≤ q → A q := fun q h => by rw [← hAe]; exact Or.inr h
  have hS : va_S A s.heap s.heap [] := va_S.rf
  have hl := lv_entry ([.int p0, .int p1]) (n := 2) (Nat.le_of_ble_eq_true rfl)
  rw [lg_entry_eq]
  generalize (lg_sl ([.int p0, .int p1]) ++ List.replicate (2 - (lg_sl ([.int p0, .int p1])).length) Slot.unset).toArray = ls at hl ⊢
  have hl : lv_has ls 2 [(0, .int p0), (1, .int p1)] := hl
  have h := hF
  unfold F_X6_isWithin at h
  refine lv_iload_n hx hb dX6_isWithin_0 rfl (lv_at hl 0 rfl) ?_
  refine lv_iload_n hx hb dX6_isWithin_1 rfl (lv_at hl 1 rfl) ?_
  refine lv_iand hx hb dX6_isWithin_2 ?_
  refine lv_iload_n hx hb dX6_isWithin_3 rfl (lv_at hl 0 rfl) ?_
  refine lv_icmp_ne (tgt := 11) hx hb dX6_isWithin_4 (by decide) (fun c1 => ?_) (fun c1 => ?_)
  · have h := it_n h c1
    refine lv_iconst (v := (0 : Int32)) hx hb dX6_isWithin_11 (by decide) ?_
    have h9 := Option.some.inj h
    have e9 : (0 : Int32) = r0 := congrArg (fun z9 => z9) h9
    rw [← e9]
    exact k_zret hx hb hr hlocks hP hS rfl rfl dX6_isWithin_12
  have h := it_p h c1
  refine lv_iconst (v := (1 : Int32)) hx hb dX6_isWithin_7 (by decide) ?_
  refine lv_goto (tgt := 12) hx hb dX6_isWithin_8 (by decide) ?_
  have h9 := Option.some.inj h
  have e9 : (1 : Int32) = r0 := congrArg (fun z9 => z9) h9
  rw [← e9]
  exact k_zret hx hb hr hlocks hP hS rfl rfl dX6_isWithin_12

/-! X6_under -/
set_option maxHeartbeats 4000000 in
set_option maxRecDepth 100000 in
theorem c_X6_under (l : Launch) (G : va_G) (cI cJ cD cH : ClassId) (sz : Nat) (p0 : Int32) (p1 : Int32) (r0 : Int32) (hF : F_X6_under p0 p1 = some r0) : Met l yX6_under wsX6_under ({ frames := 0, cells := 0, slots := 0, locals := 0 }) (k_pre G (k_T cI cJ cD cH) [] sz [.int p0, .int p1]) (va_Qi (fun r (_ : Unit) => r = r0 ∧ True) (fun _ t => va_P G vwCl [] t.heap) (va_A [] sz)) 0 0 (va_A [] sz) := by
  refine Met.ofW (cc := cX6_under) (maxL := 2) (ret := (some .int)) (by decide) rfl ?_
  intro p e s m args below meth c s₁ B hml hv
  obtain ⟨rfl, hsz, hP, hK, hD0⟩ := hv
  have hx := B.exec
  have hb := B.bytes
  have hr := B.returns
  have hts := atoms_spec (ws := wsX6_under) B.pre
  have hta : ∀ w ∈ wA, w.before ([.int p0, .int p1] : List Value).toArray s = true := hta_of hts
  have hown : s.vm.findClass RX6 = some m.cls := findClass_of_methodNamed B.named
  have hlocks := B.notSynchronized
  subst hsz
  have hD := hD0.self (sz := s.heap.size)
  generalize hAe : va_A [] s.heap.size = A at hD ⊢
  have hA : ∀ q : Nat, s.heap.size ≤ q → A q := fun q h => by rw [← hAe]; exact Or.inr h
  have hS : va_S A s.heap s.heap [] := va_S.rf
  have hl := lv_entry ([.int p0, .int p1]) (n := 2) (Nat.le_of_ble_eq_true rfl)
  rw [lg_entry_eq]
  generalize (lg_sl ([.int p0, .int p1]) ++ List.replicate (2 - (lg_sl ([.int p0, .int p1])).length) Slot.unset).toArray = ls at hl ⊢
  have hl : lv_has ls 2 [(0, .int p0), (1, .int p1)] := hl
  have h := hF
  unfold F_X6_under at h
  refine lv_iload_n hx hb dX6_under_0 rfl (lv_at hl 0 rfl) ?_
  refine lv_if_ne (tgt := 12) hx hb dX6_under_1 (by decide) (fun c1 => ?_) (fun c1 => ?_)
  · have h := it_n h c1
    refine lv_iload_n hx hb dX6_under_12 rfl (lv_at hl 0 rfl) ?_
    have h9 := Option.some.inj h
    have e9 : p0 = r0 := congrArg (fun z9 => z9) h9
    rw [← e9]
    exact k_iret hx hb hr hlocks hP hS rfl dX6_under_13
  have h := it_p h c1
  refine lv_iconst (v := (1 : Int32)) hx hb dX6_under_4 (by decide) ?_
  refine lv_iload_n hx hb dX6_under_5 rfl (lv_at hl 1 rfl) ?_
  refine lv_ishl hx hb dX6_under_6 ?_
  refine lv_iconst (v := (2 : Int32)) hx hb dX6_under_7 (by decide) ?_
  refine lv_isub hx hb dX6_under_8 ?_
  refine lv_goto (tgt := 13) hx hb dX6_under_9 (by decide) ?_
  have h9 := Option.some.inj h
  have e9 : (((1 : Int32) <<< (p1 &&& 31)) - (2 : Int32)) = r0 := congrArg (fun z9 => z9) h9
  rw [← e9]
  exact k_iret hx hb hr hlocks hP hS rfl dX6_under_13

/-! X6_lesserWithin -/
set_option maxHeartbeats 4000000 in
set_option maxRecDepth 100000 in
theorem c_X6_lesserWithin (l : Launch) (G : va_G) (cI cJ cD cH : ClassId) (sz : Nat) (p0 : Int64) (p1 : Int32) (r0 : Int64) (hF : F_X6_lesserWithin p0 p1 = some r0) : Met l yX6_lesserWithin wsX6_lesserWithin ({ frames := 2, cells := 0, slots := 0, locals := 46 }) (k_pre G (k_T cI cJ cD cH) [] sz [.long p0, .int p1]) (va_Ql (fun r (_ : Unit) => r = r0 ∧ True) (fun _ t => va_P G vwCl [] t.heap) (va_A [] sz)) 0 0 (va_A [] sz) := by
  refine Met.ofW (cc := cX6_lesserWithin) (maxL := 8) (ret := (some .long)) (by decide) rfl ?_
  intro p e s m args below meth c s₁ B hml hv
  obtain ⟨rfl, hsz, hP, hK, hD0⟩ := hv
  have hx := B.exec
  have hb := B.bytes
  have hr := B.returns
  have hts := atoms_spec (ws := wsX6_lesserWithin) B.pre
  have hta : ∀ w ∈ wA, w.before ([.long p0, .int p1] : List Value).toArray s = true := hta_of hts
  have hown : s.vm.findClass RX6 = some m.cls := findClass_of_methodNamed B.named
  have hlocks := B.notSynchronized
  subst hsz
  have hD := hD0.self (sz := s.heap.size)
  generalize hAe : va_A [] s.heap.size = A at hD ⊢
  have hA : ∀ q : Nat, s.heap.size ≤ q → A q := fun q h => by rw [← hAe]; exact Or.inr h
  have hS : va_S A s.heap s.heap [] := va_S.rf
  have hl := lv_entry ([.long p0, .int p1]) (n := 8) (Nat.le_of_ble_eq_true rfl)
  rw [lg_entry_eq]
  generalize (lg_sl ([.long p0, .int p1]) ++ List.replicate (8 - (lg_sl ([.long p0, .int p1])).length) Slot.unset).toArray = ls at hl ⊢
  have hl : lv_has ls 8 [(0, .long p0), (2, .int p1)] := hl
  have h := hF
  unfold F_X6_lesserWithin at h
  refine lv_lconst (v := (0 : Int64)) hx hb dX6_lesserWithin_0 (by decide) ?_
  refine lv_lstore_n (lv' := [(3, .long (0 : Int64)), (0, .long p0), (2, .int p1)]) hx hb dX6_lesserWithin_1 rfl hl (by decide) rfl (fun ls hl => ?_)
  refine lv_lload_n hx hb dX6_lesserWithin_2 rfl (lv_at hl 1 rfl) ?_
  obtain ⟨x1, hx1, h⟩ := bd_e h
  try dsimp only at h
  refine k_SiU (n := 1) (As := [.long p0]) (rest := []) hx hb hml hown hts (c_X6_sizeOf l G cI cJ cD cH s.heap.size p0 x1 hx1) gX6_lesserWithin_X6_sizeOf rfl rfl rfl (by decide +kernel) ⟨by first | exact Nat.le_of_ble_eq_true rfl | (simp only [headSpec]; omega), by first | exact Nat.le_of_ble_eq_true rfl | (simp only [headSpec]; omega)⟩ hK hP hD hS hA [] (by decide) rfl rfl rfl hl.1 (Nat.le_of_ble_eq_true rfl) dX6_lesserWithin_3 ⟨Nat.zero_le _, Nat.zero_le _⟩ (fun hp1 H locs hP hS => ?_)
  refine lv_istore (lv' := [(5, .int x1), (3, .long (0 : Int64)), (0, .long p0), (2, .int p1)]) hx hb dX6_lesserWithin_6 hl (by decide) rfl (fun ls hl => ?_)
  refine lv_iconst (v := (0 : Int32)) hx hb dX6_lesserWithin_8 (by decide) ?_
  refine lv_istore (lv' := [(6, .int (0 : Int32)), (5, .int x1), (3, .long (0 : Int64)), (0, .long p0), (2, .int p1)]) hx hb dX6_lesserWithin_9 hl (by decide) rfl (fun ls hl => ?_)
  have hK_X6_lesserWithin_11_54 : ∀  (vK11_54_0 : Int64) (H : Heap) (locs : List Loc) (ls : Array Slot), va_P G vwCl [] H → va_D A [] → va_S A s.heap H locs → lv_has ls 8 [(3, .long vK11_54_0)] → K_X6_lesserWithin_11_54 vK11_54_0 = some r0 → W p l e (headSpec wsX6_lesserWithin ({ frames := 2, cells := 0, slots := 0, locals := 46 })).room s m ([.long p0, .int p1] : List Value).toArray below meth c H locs 0 0 (MQ below (va_Ql (fun r (_ : Unit) => r = r0 ∧ True) (fun _ t => va_P G vwCl [] t.heap) A) ([.long p0, .int p1] : List Value).toArray s 0 0 A) (F0 m 54 ls []) := by
    intro vK11_54_0 H locs ls hP hD hS hl h
    unfold K_X6_lesserWithin_11_54 at h
    refine lv_lload_n hx hb dX6_lesserWithin_54 rfl (lv_at hl 0 rfl) ?_
    have h9 := Option.some.inj h
    have e9 : vK11_54_0 = r0 := congrArg (fun z9 => z9) h9
    rw [← e9]
    exact k_lret hx hb hr hlocks hP hS rfl dX6_lesserWithin_55
  have hL11 : ∀ (n11 : Nat) (vL11_0 : Int64) (vL11_1 : Int32) (H : Heap) (locs : List Loc) (ls : Array Slot), va_P G vwCl [] H → va_D A [] → va_S A s.heap H locs → lv_has ls 8 [(0, .long p0), (2, .int p1), (3, .long vL11_0), (5, .int x1), (6, .int vL11_1)] → wq2 (B_X6_lesserWithin_11 p0 p1 x1 K_X6_lesserWithin_11_54) n11 vL11_0 vL11_1 = some r0 → W p l e (headSpec wsX6_lesserWithin ({ frames := 2, cells := 0, slots := 0, locals := 46 })).room s m ([.long p0, .int p1] : List Value).toArray below meth c H locs 0 0 (MQ below (va_Ql (fun r (_ : Unit) => r = r0 ∧ True) (fun _ t => va_P G vwCl [] t.heap) A) ([.long p0, .int p1] : List Value).toArray s 0 0 A) (F0 m 11 ls []) := by
    intro n11
    induction n11 with
    | zero => intro vL11_0 vL11_1 H locs ls hP hD hS hl h; exact wq2_0 h
    | succ n11 ih11 =>
      intro vL11_0 vL11_1 H locs ls hP hD hS hl h
      have h := wq2_s h
      unfold B_X6_lesserWithin_11 at h
      refine lv_iload hx hb dX6_lesserWithin_11 (lv_at hl 4 rfl) ?_
      refine lv_iload hx hb dX6_lesserWithin_13 (lv_at hl 3 rfl) ?_
      refine lv_icmp_ge (tgt := 54) hx hb dX6_lesserWithin_15 (by decide) (fun c2 => ?_) (fun c2 => ?_)
      · have h := it_p h c2
        exact hK_X6_lesserWithin_11_54 vL11_0 _ _ _ hP hD hS (lv_sub hl [2] rfl) h
      have h := it_n h c2
      refine lv_lload_n hx hb dX6_lesserWithin_18 rfl (lv_at hl 0 rfl) ?_
      refine lv_iload hx hb dX6_lesserWithin_19 (lv_at hl 4 rfl) ?_
      obtain ⟨x3, hx3, h⟩ := bd_e h
      try dsimp only at h
      refine k_SiU (n := 2) (As := [.long p0, .int vL11_1]) (rest := []) hx hb hml hown hts (c_X6_nth l G cI cJ cD cH H.size p0 vL11_1 x3 hx3) gX6_lesserWithin_X6_nth rfl rfl rfl (by decide +kernel) ⟨by first | exact Nat.le_of_ble_eq_true rfl | (simp only [headSpec]; omega), by first | exact Nat.le_of_ble_eq_true rfl | (simp only [headSpec]; omega)⟩ hK hP hD hS hA [] (by decide) rfl rfl rfl hl.1 (Nat.le_of_ble_eq_true rfl) dX6_lesserWithin_21 ⟨Nat.zero_le _, Nat.zero_le _⟩ (fun hp3 H locs hP hS => ?_)
      refine lv_istore (lv' := [(7, .int x3), (0, .long p0), (2, .int p1), (3, .long vL11_0), (5, .int x1), (6, .int vL11_1)]) hx hb dX6_lesserWithin_24 hl (by decide) rfl (fun ls hl => ?_)
      refine lv_iload hx hb dX6_lesserWithin_26 (lv_at hl 0 rfl) ?_
      refine lv_iload_n hx hb dX6_lesserWithin_28 rfl (lv_at hl 2 rfl) ?_
      refine lv_icmp_eq (tgt := 48) hx hb dX6_lesserWithin_29 (by decide) (fun c4 => ?_) (fun c4 => ?_)
      · have h := it_p h c4
        refine lv_iinc (v := (vL11_1 + (1 : Int32))) (lv' := [(6, .int (vL11_1 + (1 : Int32))), (7, .int x3), (0, .long p0), (2, .int p1), (3, .long vL11_0), (5, .int x1)]) hx hb dX6_lesserWithin_48 hl (k := 5) rfl (by first | rfl | decide) (by decide) rfl (fun ls hl => ?_)
        refine lv_goto (tgt := 11) hx hb dX6_lesserWithin_51 (by decide) ?_
        exact ih11 vL11_0 (vL11_1 + (1 : Int32)) _ _ _ hP hD hS (lv_sub hl [2, 3, 4, 5, 0] rfl) h
      have h := it_n h c4
      refine lv_iload hx hb dX6_lesserWithin_32 (lv_at hl 0 rfl) ?_
      refine lv_iload_n hx hb dX6_lesserWithin_34 rfl (lv_at hl 2 rfl) ?_
      obtain ⟨x5, hx5, h⟩ := bd_e h
      try dsimp only at h
      refine k_SiU (n := 2) (As := [.int x3, .int p1]) (rest := []) hx hb hml hown hts (c_X6_isWithin l G cI cJ cD cH H.size x3 p1 x5 hx5) gX6_lesserWithin_X6_isWithin rfl rfl rfl (by decide +kernel) ⟨by first | exact Nat.le_of_ble_eq_true rfl | (simp only [headSpec]; omega), by first | exact Nat.le_of_ble_eq_true rfl | (simp only [headSpec]; omega)⟩ hK hP hD hS hA [] (by decide) rfl rfl rfl hl.1 (Nat.le_of_ble_eq_true rfl) dX6_lesserWithin_35 ⟨Nat.zero_le _, Nat.zero_le _⟩ (fun hp5 H locs hP hS => ?_)
      refine lv_if_eq (tgt := 48) hx hb dX6_lesserWithin_38 (by decide) (fun c6 => ?_) (fun c6 => ?_)
      · have h := it_p h c6
        refine lv_iinc (v := (vL11_1 + (1 : Int32))) (lv' := [(6, .int (vL11_1 + (1 : Int32))), (7, .int x3), (0, .long p0), (2, .int p1), (3, .long vL11_0), (5, .int x1)]) hx hb dX6_lesserWithin_48 hl (k := 5) rfl (by first | rfl | decide) (by decide) rfl (fun ls hl => ?_)
        refine lv_goto (tgt := 11) hx hb dX6_lesserWithin_51 (by decide) ?_
        exact ih11 vL11_0 (vL11_1 + (1 : Int32)) _ _ _ hP hD hS (lv_sub hl [2, 3, 4, 5, 0] rfl) h
      have h := it_n h c6
      refine lv_lload_n hx hb dX6_lesserWithin_41 rfl (lv_at hl 3 rfl) ?_
      refine lv_iload hx hb dX6_lesserWithin_42 (lv_at hl 0 rfl) ?_
      obtain ⟨x7, hx7, h⟩ := bd_e h
      try dsimp only at h
      refine k_SlU (n := 2) (As := [.long vL11_0, .int x3]) (rest := []) hx hb hml hown hts (c_X6_with l G cI cJ cD cH H.size vL11_0 x3 x7 hx7) gX6_lesserWithin_X6_with rfl rfl rfl (by decide +kernel) ⟨by first | exact Nat.le_of_ble_eq_true rfl | (simp only [headSpec]; omega), by first | exact Nat.le_of_ble_eq_true rfl | (simp only [headSpec]; omega)⟩ hK hP hD hS hA [] (by decide) rfl rfl rfl hl.1 (Nat.le_of_ble_eq_true rfl) dX6_lesserWithin_44 ⟨Nat.zero_le _, Nat.zero_le _⟩ (fun hp7 H locs hP hS => ?_)
      refine lv_lstore_n (lv' := [(3, .long x7), (7, .int x3), (0, .long p0), (2, .int p1), (5, .int x1), (6, .int vL11_1)]) hx hb dX6_lesserWithin_47 rfl hl (by decide) rfl (fun ls hl => ?_)
      refine lv_iinc (v := (vL11_1 + (1 : Int32))) (lv' := [(6, .int (vL11_1 + (1 : Int32))), (3, .long x7), (7, .int x3), (0, .long p0), (2, .int p1), (5, .int x1)]) hx hb dX6_lesserWithin_48 hl (k := 5) rfl (by first | rfl | decide) (by decide) rfl (fun ls hl => ?_)
      refine lv_goto (tgt := 11) hx hb dX6_lesserWithin_51 (by decide) ?_
      exact ih11 x7 (vL11_1 + (1 : Int32)) _ _ _ hP hD hS (lv_sub hl [3, 4, 1, 5, 0] rfl) h
  exact hL11 FU (0 : Int64) (0 : Int32) _ _ _ hP hD hS (lv_sub hl [3, 4, 2, 1, 0] rfl) h

/-! X6_leavesAt -/
set_option maxHeartbeats 4000000 in
set_option maxRecDepth 100000 in
theorem c_X6_leavesAt (l : Launch) (G : va_G) (cI cJ cD cH : ClassId) (sz : Nat) (p0 : Int64) (p1 : Int32) (r0 : Int32) (hF : F_X6_leavesAt p0 p1 = some r0) : Met l yX6_leavesAt wsX6_leavesAt ({ frames := 3, cells := 0, slots := 0, locals := 73 }) (k_pre G (k_T cI cJ cD cH) [] sz [.long p0, .int p1]) (va_Qi (fun r (_ : Unit) => r = r0 ∧ True) (fun _ t => va_P G vwCl [] t.heap) (va_A [] sz)) 0 0 (va_A [] sz) := by
  refine Met.ofW (cc := cX6_leavesAt) (maxL := 8) (ret := (some .int)) (by decide) rfl ?_
  intro p e s m args below meth c s₁ B hml hv
  obtain ⟨rfl, hsz, hP, hK, hD0⟩ := hv
  have hx := B.exec
  have hb := B.bytes
  have hr := B.returns
  have hts := atoms_spec (ws := wsX6_leavesAt) B.pre
  have hta : ∀ w ∈ wA, w.before ([.long p0, .int p1] : List Value).toArray s = true := hta_of hts
  have hown : s.vm.findClass RX6 = some m.cls := findClass_of_methodNamed B.named
  have hlocks := B.notSynchronized
  subst hsz
  have hD := hD0.self (sz := s.heap.size)
  generalize hAe : va_A [] s.heap.size = A at hD ⊢
  have hA : ∀ q : Nat, s.heap.size ≤ q → A q := fun q h => by rw [← hAe]; exact Or.inr h
  have hS : va_S A s.heap s.heap [] := va_S.rf
  have hl := lv_entry ([.long p0, .int p1]) (n := 8) (Nat.le_of_ble_eq_true rfl)
  rw [lg_entry_eq]
  generalize (lg_sl ([.long p0, .int p1]) ++ List.replicate (8 - (lg_sl ([.long p0, .int p1])).length) Slot.unset).toArray = ls at hl ⊢
  have hl : lv_has ls 8 [(0, .long p0), (2, .int p1)] := hl
  have h := hF
  unfold F_X6_leavesAt at h
  refine lv_lload_n hx hb dX6_leavesAt_0 rfl (lv_at hl 0 rfl) ?_
  refine lv_iload_n hx hb dX6_leavesAt_1 rfl (lv_at hl 1 rfl) ?_
  obtain ⟨x1, hx1, h⟩ := bd_e h
  try dsimp only at h
  refine k_SlU (n := 2) (As := [.long p0, .int p1]) (rest := []) hx hb hml hown hts (c_X6_lesserWithin l G cI cJ cD cH s.heap.size p0 p1 x1 hx1) gX6_leavesAt_X6_lesserWithin rfl rfl rfl (by decide +kernel) ⟨by first | exact Nat.le_of_ble_eq_true rfl | (simp only [headSpec]; omega), by first | exact Nat.le_of_ble_eq_true rfl | (simp only [headSpec]; omega)⟩ hK hP hD hS hA [] (by decide) rfl rfl rfl hl.1 (Nat.le_of_ble_eq_true rfl) dX6_leavesAt_2 ⟨Nat.zero_le _, Nat.zero_le _⟩ (fun hp1 H locs hP hS => ?_)
  refine lv_lstore_n (lv' := [(3, .long x1), (0, .long p0), (2, .int p1)]) hx hb dX6_leavesAt_5 rfl hl (by decide) rfl (fun ls hl => ?_)
  refine lv_iload_n hx hb dX6_leavesAt_6 rfl (lv_at hl 2 rfl) ?_
  refine lv_istore (lv' := [(5, .int p1), (3, .long x1), (0, .long p0), (2, .int p1)]) hx hb dX6_leavesAt_7 hl (by decide) rfl (fun ls hl => ?_)
  refine lv_lload_n hx hb dX6_leavesAt_9 rfl (lv_at hl 1 rfl) ?_
  obtain ⟨x2, hx2, h⟩ := bd_e h
  try dsimp only at h
  refine k_SiU (n := 1) (As := [.long x1]) (rest := []) hx hb hml hown hts (c_X6_sizeOf l G cI cJ cD cH H.size x1 x2 hx2) gX6_leavesAt_X6_sizeOf rfl rfl rfl (by decide +kernel) ⟨by first | exact Nat.le_of_ble_eq_true rfl | (simp only [headSpec]; omega), by first | exact Nat.le_of_ble_eq_true rfl | (simp only [headSpec]; omega)⟩ hK hP hD hS hA [] (by decide) rfl rfl rfl hl.1 (Nat.le_of_ble_eq_true rfl) dX6_leavesAt_10 ⟨Nat.zero_le _, Nat.zero_le _⟩ (fun hp2 H locs hP hS => ?_)
  refine lv_istore (lv' := [(6, .int x2), (5, .int p1), (3, .long x1), (0, .long p0), (2, .int p1)]) hx hb dX6_leavesAt_13 hl (by decide) rfl (fun ls hl => ?_)
  refine lv_iconst (v := (0 : Int32)) hx hb dX6_leavesAt_15 (by decide) ?_
  refine lv_istore (lv' := [(7, .int (0 : Int32)), (6, .int x2), (5, .int p1), (3, .long x1), (0, .long p0), (2, .int p1)]) hx hb dX6_leavesAt_16 hl (by decide) rfl (fun ls hl => ?_)
  have hK_X6_leavesAt_18_44 : ∀  (vK18_44_0 : Int32) (H : Heap) (locs : List Loc) (ls : Array Slot), va_P G vwCl [] H → va_D A [] → va_S A s.heap H locs → lv_has ls 8 [(5, .int vK18_44_0)] → K_X6_leavesAt_18_44 vK18_44_0 = some r0 → W p l e (headSpec wsX6_leavesAt ({ frames := 3, cells := 0, slots := 0, locals := 73 })).room s m ([.long p0, .int p1] : List Value).toArray below meth c H locs 0 0 (MQ below (va_Qi (fun r (_ : Unit) => r = r0 ∧ True) (fun _ t => va_P G vwCl [] t.heap) A) ([.long p0, .int p1] : List Value).toArray s 0 0 A) (F0 m 44 ls []) := by
    intro vK18_44_0 H locs ls hP hD hS hl h
    unfold K_X6_leavesAt_18_44 at h
    refine lv_iload hx hb dX6_leavesAt_44 (lv_at hl 0 rfl) ?_
    have h9 := Option.some.inj h
    have e9 : vK18_44_0 = r0 := congrArg (fun z9 => z9) h9
    rw [← e9]
    exact k_iret hx hb hr hlocks hP hS rfl dX6_leavesAt_46
  have hL18 : ∀ (n18 : Nat) (vL18_0 : Int32) (vL18_1 : Int32) (H : Heap) (locs : List Loc) (ls : Array Slot), va_P G vwCl [] H → va_D A [] → va_S A s.heap H locs → lv_has ls 8 [(3, .long x1), (5, .int vL18_0), (6, .int x2), (7, .int vL18_1)] → wq2 (B_X6_leavesAt_18 x1 x2 K_X6_leavesAt_18_44) n18 vL18_0 vL18_1 = some r0 → W p l e (headSpec wsX6_leavesAt ({ frames := 3, cells := 0, slots := 0, locals := 73 })).room s m ([.long p0, .int p1] : List Value).toArray below meth c H locs 0 0 (MQ below (va_Qi (fun r (_ : Unit) => r = r0 ∧ True) (fun _ t => va_P G vwCl [] t.heap) A) ([.long p0, .int p1] : List Value).toArray s 0 0 A) (F0 m 18 ls []) := by
    intro n18
    induction n18 with
    | zero => intro vL18_0 vL18_1 H locs ls hP hD hS hl h; exact wq2_0 h
    | succ n18 ih18 =>
      intro vL18_0 vL18_1 H locs ls hP hD hS hl h
      have h := wq2_s h
      unfold B_X6_leavesAt_18 at h
      refine lv_iload hx hb dX6_leavesAt_18 (lv_at hl 3 rfl) ?_
      refine lv_iload hx hb dX6_leavesAt_20 (lv_at hl 2 rfl) ?_
      refine lv_icmp_ge (tgt := 44) hx hb dX6_leavesAt_22 (by decide) (fun c3 => ?_) (fun c3 => ?_)
      · have h := it_p h c3
        exact hK_X6_leavesAt_18_44 vL18_0 _ _ _ hP hD hS (lv_sub hl [1] rfl) h
      have h := it_n h c3
      refine lv_iload hx hb dX6_leavesAt_25 (lv_at hl 1 rfl) ?_
      refine lv_lload_n hx hb dX6_leavesAt_27 rfl (lv_at hl 0 rfl) ?_
      refine lv_iload hx hb dX6_leavesAt_28 (lv_at hl 3 rfl) ?_
      obtain ⟨x4, hx4, h⟩ := bd_e h
      try dsimp only at h
      refine k_SiU (n := 2) (As := [.long x1, .int vL18_1]) (rest := [.int vL18_0]) hx hb hml hown hts (c_X6_nth l G cI cJ cD cH H.size x1 vL18_1 x4 hx4) gX6_leavesAt_X6_nth rfl rfl rfl (by decide +kernel) ⟨by first | exact Nat.le_of_ble_eq_true rfl | (simp only [headSpec]; omega), by first | exact Nat.le_of_ble_eq_true rfl | (simp only [headSpec]; omega)⟩ hK hP hD hS hA [] (by decide) rfl rfl rfl hl.1 (Nat.le_of_ble_eq_true rfl) dX6_leavesAt_30 ⟨Nat.zero_le _, Nat.zero_le _⟩ (fun hp4 H locs hP hS => ?_)
      refine lv_iconst (v := (-1 : Int32)) hx hb dX6_leavesAt_33 (by decide) ?_
      refine lv_ixor hx hb dX6_leavesAt_34 ?_
      refine lv_iand hx hb dX6_leavesAt_35 ?_
      refine lv_istore (lv' := [(5, .int (vL18_0 &&& (x4 ^^^ (-1 : Int32)))), (3, .long x1), (6, .int x2), (7, .int vL18_1)]) hx hb dX6_leavesAt_36 hl (by decide) rfl (fun ls hl => ?_)
      refine lv_iinc (v := (vL18_1 + (1 : Int32))) (lv' := [(7, .int (vL18_1 + (1 : Int32))), (5, .int (vL18_0 &&& (x4 ^^^ (-1 : Int32)))), (3, .long x1), (6, .int x2)]) hx hb dX6_leavesAt_38 hl (k := 3) rfl (by first | rfl | decide) (by decide) rfl (fun ls hl => ?_)
      refine lv_goto (tgt := 18) hx hb dX6_leavesAt_41 (by decide) ?_
      exact ih18 (vL18_0 &&& (x4 ^^^ (-1 : Int32))) (vL18_1 + (1 : Int32)) _ _ _ hP hD hS (lv_sub hl [2, 1, 3, 0] rfl) h
  exact hL18 FU p1 (0 : Int32) _ _ _ hP hD hS (lv_sub hl [3, 2, 1, 0] rfl) h

/-! X6_isOutermost -/
set_option maxHeartbeats 4000000 in
set_option maxRecDepth 100000 in
theorem c_X6_isOutermost (l : Launch) (G : va_G) (cI cJ cD cH : ClassId) (sz : Nat) (p0 : Int64) (p1 : Int32) (r0 : Int32) (hF : F_X6_isOutermost p0 p1 = some r0) : Met l yX6_isOutermost wsX6_isOutermost ({ frames := 2, cells := 0, slots := 0, locals := 46 }) (k_pre G (k_T cI cJ cD cH) [] sz [.long p0, .int p1]) (va_Qi (fun r (_ : Unit) => r = r0 ∧ narrow .boolean (.int r0) = .int r0) (fun _ t => va_P G vwCl [] t.heap) (va_A [] sz)) 0 0 (va_A [] sz) := by
  refine Met.ofW (cc := cX6_isOutermost) (maxL := 6) (ret := (some .boolean)) (by decide) rfl ?_
  intro p e s m args below meth c s₁ B hml hv
  obtain ⟨rfl, hsz, hP, hK, hD0⟩ := hv
  have hx := B.exec
  have hb := B.bytes
  have hr := B.returns
  have hts := atoms_spec (ws := wsX6_isOutermost) B.pre
  have hta : ∀ w ∈ wA, w.before ([.long p0, .int p1] : List Value).toArray s = true := hta_of hts
  have hown : s.vm.findClass RX6 = some m.cls := findClass_of_methodNamed B.named
  have hlocks := B.notSynchronized
  subst hsz
  have hD := hD0.self (sz := s.heap.size)
  generalize hAe : va_A [] s.heap.size = A at hD ⊢
  have hA : ∀ q : Nat, s.heap.size ≤ q → A q := fun q h => by rw [← hAe]; exact Or.inr h
  have hS : va_S A s.heap s.heap [] := va_S.rf
  have hl := lv_entry ([.long p0, .int p1]) (n := 6) (Nat.le_of_ble_eq_true rfl)
  rw [lg_entry_eq]
  generalize (lg_sl ([.long p0, .int p1]) ++ List.replicate (6 - (lg_sl ([.long p0, .int p1])).length) Slot.unset).toArray = ls at hl ⊢
  have hl : lv_has ls 6 [(0, .long p0), (2, .int p1)] := hl
  have h := hF
  unfold F_X6_isOutermost at h
  refine lv_lload_n hx hb dX6_isOutermost_0 rfl (lv_at hl 0 rfl) ?_
  obtain ⟨x1, hx1, h⟩ := bd_e h
  try dsimp only at h
  refine k_SiU (n := 1) (As := [.long p0]) (rest := []) hx hb hml hown hts (c_X6_sizeOf l G cI cJ cD cH s.heap.size p0 x1 hx1) gX6_isOutermost_X6_sizeOf rfl rfl rfl (by decide +kernel) ⟨by first | exact Nat.le_of_ble_eq_true rfl | (simp only [headSpec]; omega), by first | exact Nat.le_of_ble_eq_true rfl | (simp only [headSpec]; omega)⟩ hK hP hD hS hA [] (by decide) rfl rfl rfl hl.1 (Nat.le_of_ble_eq_true rfl) dX6_isOutermost_1 ⟨Nat.zero_le _, Nat.zero_le _⟩ (fun hp1 H locs hP hS => ?_)
  refine lv_istore_n (lv' := [(3, .int x1), (0, .long p0), (2, .int p1)]) hx hb dX6_isOutermost_4 rfl hl (by decide) rfl (fun ls hl => ?_)
  refine lv_iconst (v := (0 : Int32)) hx hb dX6_isOutermost_5 (by decide) ?_
  refine lv_istore (lv' := [(4, .int (0 : Int32)), (3, .int x1), (0, .long p0), (2, .int p1)]) hx hb dX6_isOutermost_6 hl (by decide) rfl (fun ls hl => ?_)
  have hK_X6_isOutermost_8_45 : ∀ (H : Heap) (locs : List Loc) (ls : Array Slot), va_P G vwCl [] H → va_D A [] → va_S A s.heap H locs → lv_has ls 6 [] → K_X6_isOutermost_8_45 = some r0 → W p l e (headSpec wsX6_isOutermost ({ frames := 2, cells := 0, slots := 0, locals := 46 })).room s m ([.long p0, .int p1] : List Value).toArray below meth c H locs 0 0 (MQ below (va_Qi (fun r (_ : Unit) => r = r0 ∧ narrow .boolean (.int r0) = .int r0) (fun _ t => va_P G vwCl [] t.heap) A) ([.long p0, .int p1] : List Value).toArray s 0 0 A) (F0 m 45 ls []) := by
    intro  H locs ls hP hD hS hl h
    unfold K_X6_isOutermost_8_45 at h
    refine lv_iconst (v := (1 : Int32)) hx hb dX6_isOutermost_45 (by decide) ?_
    have h9 := Option.some.inj h
    have e9 : (1 : Int32) = r0 := congrArg (fun z9 => z9) h9
    rw [← e9]
    exact k_zret hx hb hr hlocks hP hS rfl rfl dX6_isOutermost_46
  have hL8 : ∀ (n8 : Nat) (vL8_0 : Int32) (H : Heap) (locs : List Loc) (ls : Array Slot), va_P G vwCl [] H → va_D A [] → va_S A s.heap H locs → lv_has ls 6 [(0, .long p0), (2, .int p1), (3, .int x1), (4, .int vL8_0)] → wq1 (B_X6_isOutermost_8 p0 p1 x1 K_X6_isOutermost_8_45) n8 vL8_0 = some r0 → W p l e (headSpec wsX6_isOutermost ({ frames := 2, cells := 0, slots := 0, locals := 46 })).room s m ([.long p0, .int p1] : List Value).toArray below meth c H locs 0 0 (MQ below (va_Qi (fun r (_ : Unit) => r = r0 ∧ narrow .boolean (.int r0) = .int r0) (fun _ t => va_P G vwCl [] t.heap) A) ([.long p0, .int p1] : List Value).toArray s 0 0 A) (F0 m 8 ls []) := by
    intro n8
    induction n8 with
    | zero => intro vL8_0 H locs ls hP hD hS hl h; exact wq1_0 h
    | succ n8 ih8 =>
      intro vL8_0 H locs ls hP hD hS hl h
      have h := wq1_s h
      unfold B_X6_isOutermost_8 at h
      refine lv_iload hx hb dX6_isOutermost_8 (lv_at hl 3 rfl) ?_
      refine lv_iload_n hx hb dX6_isOutermost_10 rfl (lv_at hl 2 rfl) ?_
      refine lv_icmp_ge (tgt := 45) hx hb dX6_isOutermost_11 (by decide) (fun c2 => ?_) (fun c2 => ?_)
      · have h := it_p h c2
        exact hK_X6_isOutermost_8_45  _ _ _ hP hD hS (lv_sub hl [] rfl) h
      have h := it_n h c2
      refine lv_lload_n hx hb dX6_isOutermost_14 rfl (lv_at hl 0 rfl) ?_
      refine lv_iload hx hb dX6_isOutermost_15 (lv_at hl 3 rfl) ?_
      obtain ⟨x3, hx3, h⟩ := bd_e h
      try dsimp only at h
      refine k_SiU (n := 2) (As := [.long p0, .int vL8_0]) (rest := []) hx hb hml hown hts (c_X6_nth l G cI cJ cD cH H.size p0 vL8_0 x3 hx3) gX6_isOutermost_X6_nth rfl rfl rfl (by decide +kernel) ⟨by first | exact Nat.le_of_ble_eq_true rfl | (simp only [headSpec]; omega), by first | exact Nat.le_of_ble_eq_true rfl | (simp only [headSpec]; omega)⟩ hK hP hD hS hA [] (by decide) rfl rfl rfl hl.1 (Nat.le_of_ble_eq_true rfl) dX6_isOutermost_17 ⟨Nat.zero_le _, Nat.zero_le _⟩ (fun hp3 H locs hP hS => ?_)
      refine lv_istore (lv' := [(5, .int x3), (0, .long p0), (2, .int p1), (3, .int x1), (4, .int vL8_0)]) hx hb dX6_isOutermost_20 hl (by decide) rfl (fun ls hl => ?_)
      refine lv_iload hx hb dX6_isOutermost_22 (lv_at hl 0 rfl) ?_
      refine lv_iload_n hx hb dX6_isOutermost_24 rfl (lv_at hl 2 rfl) ?_
      refine lv_icmp_eq (tgt := 39) hx hb dX6_isOutermost_25 (by decide) (fun c4 => ?_) (fun c4 => ?_)
      · have h := it_p h c4
        refine lv_iinc (v := (vL8_0 + (1 : Int32))) (lv' := [(4, .int (vL8_0 + (1 : Int32))), (5, .int x3), (0, .long p0), (2, .int p1), (3, .int x1)]) hx hb dX6_isOutermost_39 hl (k := 4) rfl (by first | rfl | decide) (by decide) rfl (fun ls hl => ?_)
        refine lv_goto (tgt := 8) hx hb dX6_isOutermost_42 (by decide) ?_
        exact ih8 (vL8_0 + (1 : Int32)) _ _ _ hP hD hS (lv_sub hl [2, 3, 4, 0] rfl) h
      have h := it_n h c4
      refine lv_iload_n hx hb dX6_isOutermost_28 rfl (lv_at hl 2 rfl) ?_
      refine lv_iload hx hb dX6_isOutermost_29 (lv_at hl 0 rfl) ?_
      obtain ⟨x5, hx5, h⟩ := bd_e h
      try dsimp only at h
      refine k_SiU (n := 2) (As := [.int p1, .int x3]) (rest := []) hx hb hml hown hts (c_X6_isWithin l G cI cJ cD cH H.size p1 x3 x5 hx5) gX6_isOutermost_X6_isWithin rfl rfl rfl (by decide +kernel) ⟨by first | exact Nat.le_of_ble_eq_true rfl | (simp only [headSpec]; omega), by first | exact Nat.le_of_ble_eq_true rfl | (simp only [headSpec]; omega)⟩ hK hP hD hS hA [] (by decide) rfl rfl rfl hl.1 (Nat.le_of_ble_eq_true rfl) dX6_isOutermost_31 ⟨Nat.zero_le _, Nat.zero_le _⟩ (fun hp5 H locs hP hS => ?_)
      refine lv_if_eq (tgt := 39) hx hb dX6_isOutermost_34 (by decide) (fun c6 => ?_) (fun c6 => ?_)
      · have h := it_p h c6
        refine lv_iinc (v := (vL8_0 + (1 : Int32))) (lv' := [(4, .int (vL8_0 + (1 : Int32))), (5, .int x3), (0, .long p0), (2, .int p1), (3, .int x1)]) hx hb dX6_isOutermost_39 hl (k := 4) rfl (by first | rfl | decide) (by decide) rfl (fun ls hl => ?_)
        refine lv_goto (tgt := 8) hx hb dX6_isOutermost_42 (by decide) ?_
        exact ih8 (vL8_0 + (1 : Int32)) _ _ _ hP hD hS (lv_sub hl [2, 3, 4, 0] rfl) h
      have h := it_n h c6
      refine lv_iconst (v := (0 : Int32)) hx hb dX6_isOutermost_37 (by decide) ?_
      have h9 := Option.some.inj h
      have e9 : (0 : Int32) = r0 := congrArg (fun z9 => z9) h9
      rw [← e9]
      exact k_zret hx hb hr hlocks hP hS rfl rfl dX6_isOutermost_38
  exact hL8 FU (0 : Int32) _ _ _ hP hD hS (lv_sub hl [2, 3, 1, 0] rfl) h

/-! X6_edgesDown -/
set_option maxHeartbeats 4000000 in
set_option maxRecDepth 100000 in
theorem c_X6_edgesDown (l : Launch) (G : va_G) (cI cJ cD cH : ClassId) (sz : Nat) (p0 : Int64) (p1 : Int32) (r0 : Int32) (hF : F_X6_edgesDown p0 p1 = some r0) : Met l yX6_edgesDown wsX6_edgesDown ({ frames := 3, cells := 0, slots := 0, locals := 73 }) (k_pre G (k_T cI cJ cD cH) [] sz [.long p0, .int p1]) (va_Qi (fun r (_ : Unit) => r = r0 ∧ True) (fun _ t => va_P G vwCl [] t.heap) (va_A [] sz)) 0 0 (va_A [] sz) := by
  refine Met.ofW (cc := cX6_edgesDown) (maxL := 8) (ret := (some .int)) (by decide) rfl ?_
  intro p e s m args below meth c s₁ B hml hv
  obtain ⟨rfl, hsz, hP, hK, hD0⟩ := hv
  have hx := B.exec
  have hb := B.bytes
  have hr := B.returns
  have hts := atoms_spec (ws := wsX6_edgesDown) B.pre
  have hta : ∀ w ∈ wA, w.before ([.long p0, .int p1] : List Value).toArray s = true := hta_of hts
  have hown : s.vm.findClass RX6 = some m.cls := findClass_of_methodNamed B.named
  have hlocks := B.notSynchronized
  subst hsz
  have hD := hD0.self (sz := s.heap.size)
  generalize hAe : va_A [] s.heap.size = A at hD ⊢
  have hA : ∀ q : Nat, s.heap.size ≤ q → A q := fun q h => by rw [← hAe]; exact Or.inr h
  have hS : va_S A s.heap s.heap [] := va_S.rf
  have hl := lv_entry ([.long p0, .int p1]) (n := 8) (Nat.le_of_ble_eq_true rfl)
  rw [lg_entry_eq]
  generalize (lg_sl ([.long p0, .int p1]) ++ List.replicate (8 - (lg_sl ([.long p0, .int p1])).length) Slot.unset).toArray = ls at hl ⊢
  have hl : lv_has ls 8 [(0, .long p0), (2, .int p1)] := hl
  have h := hF
  unfold F_X6_edgesDown at h
  refine lv_lload_n hx hb dX6_edgesDown_0 rfl (lv_at hl 0 rfl) ?_
  refine lv_iload_n hx hb dX6_edgesDown_1 rfl (lv_at hl 1 rfl) ?_
  obtain ⟨x1, hx1, h⟩ := bd_e h
  try dsimp only at h
  refine k_SlU (n := 2) (As := [.long p0, .int p1]) (rest := []) hx hb hml hown hts (c_X6_lesserWithin l G cI cJ cD cH s.heap.size p0 p1 x1 hx1) gX6_edgesDown_X6_lesserWithin rfl rfl rfl (by decide +kernel) ⟨by first | exact Nat.le_of_ble_eq_true rfl | (simp only [headSpec]; omega), by first | exact Nat.le_of_ble_eq_true rfl | (simp only [headSpec]; omega)⟩ hK hP hD hS hA [] (by decide) rfl rfl rfl hl.1 (Nat.le_of_ble_eq_true rfl) dX6_edgesDown_2 ⟨Nat.zero_le _, Nat.zero_le _⟩ (fun hp1 H locs hP hS => ?_)
  refine lv_lstore_n (lv' := [(3, .long x1), (0, .long p0), (2, .int p1)]) hx hb dX6_edgesDown_5 rfl hl (by decide) rfl (fun ls hl => ?_)
  refine lv_iconst (v := (0 : Int32)) hx hb dX6_edgesDown_6 (by decide) ?_
  refine lv_istore (lv' := [(5, .int (0 : Int32)), (3, .long x1), (0, .long p0), (2, .int p1)]) hx hb dX6_edgesDown_7 hl (by decide) rfl (fun ls hl => ?_)
  refine lv_lload_n hx hb dX6_edgesDown_9 rfl (lv_at hl 1 rfl) ?_
  obtain ⟨x2, hx2, h⟩ := bd_e h
  try dsimp only at h
  refine k_SiU (n := 1) (As := [.long x1]) (rest := []) hx hb hml hown hts (c_X6_sizeOf l G cI cJ cD cH H.size x1 x2 hx2) gX6_edgesDown_X6_sizeOf rfl rfl rfl (by decide +kernel) ⟨by first | exact Nat.le_of_ble_eq_true rfl | (simp only [headSpec]; omega), by first | exact Nat.le_of_ble_eq_true rfl | (simp only [headSpec]; omega)⟩ hK hP hD hS hA [] (by decide) rfl rfl rfl hl.1 (Nat.le_of_ble_eq_true rfl) dX6_edgesDown_10 ⟨Nat.zero_le _, Nat.zero_le _⟩ (fun hp2 H locs hP hS => ?_)
  refine lv_istore (lv' := [(6, .int x2), (5, .int (0 : Int32)), (3, .long x1), (0, .long p0), (2, .int p1)]) hx hb dX6_edgesDown_13 hl (by decide) rfl (fun ls hl => ?_)
  refine lv_iconst (v := (0 : Int32)) hx hb dX6_edgesDown_15 (by decide) ?_
  refine lv_istore (lv' := [(7, .int (0 : Int32)), (6, .int x2), (5, .int (0 : Int32)), (3, .long x1), (0, .long p0), (2, .int p1)]) hx hb dX6_edgesDown_16 hl (by decide) rfl (fun ls hl => ?_)
  have hK_X6_edgesDown_18_47 : ∀  (vK18_47_0 : Int32) (H : Heap) (locs : List Loc) (ls : Array Slot), va_P G vwCl [] H → va_D A [] → va_S A s.heap H locs → lv_has ls 8 [(5, .int vK18_47_0)] → K_X6_edgesDown_18_47 vK18_47_0 = some r0 → W p l e (headSpec wsX6_edgesDown ({ frames := 3, cells := 0, slots := 0, locals := 73 })).room s m ([.long p0, .int p1] : List Value).toArray below meth c H locs 0 0 (MQ below (va_Qi (fun r (_ : Unit) => r = r0 ∧ True) (fun _ t => va_P G vwCl [] t.heap) A) ([.long p0, .int p1] : List Value).toArray s 0 0 A) (F0 m 47 ls []) := by
    intro vK18_47_0 H locs ls hP hD hS hl h
    unfold K_X6_edgesDown_18_47 at h
    refine lv_iload hx hb dX6_edgesDown_47 (lv_at hl 0 rfl) ?_
    have h9 := Option.some.inj h
    have e9 : vK18_47_0 = r0 := congrArg (fun z9 => z9) h9
    rw [← e9]
    exact k_iret hx hb hr hlocks hP hS rfl dX6_edgesDown_49
  have hL18 : ∀ (n18 : Nat) (vL18_0 : Int32) (vL18_1 : Int32) (H : Heap) (locs : List Loc) (ls : Array Slot), va_P G vwCl [] H → va_D A [] → va_S A s.heap H locs → lv_has ls 8 [(3, .long x1), (5, .int vL18_0), (6, .int x2), (7, .int vL18_1)] → wq2 (B_X6_edgesDown_18 x1 x2 K_X6_edgesDown_18_47) n18 vL18_0 vL18_1 = some r0 → W p l e (headSpec wsX6_edgesDown ({ frames := 3, cells := 0, slots := 0, locals := 73 })).room s m ([.long p0, .int p1] : List Value).toArray below meth c H locs 0 0 (MQ below (va_Qi (fun r (_ : Unit) => r = r0 ∧ True) (fun _ t => va_P G vwCl [] t.heap) A) ([.long p0, .int p1] : List Value).toArray s 0 0 A) (F0 m 18 ls []) := by
    intro n18
    induction n18 with
    | zero => intro vL18_0 vL18_1 H locs ls hP hD hS hl h; exact wq2_0 h
    | succ n18 ih18 =>
      intro vL18_0 vL18_1 H locs ls hP hD hS hl h
      have h := wq2_s h
      unfold B_X6_edgesDown_18 at h
      refine lv_iload hx hb dX6_edgesDown_18 (lv_at hl 3 rfl) ?_
      refine lv_iload hx hb dX6_edgesDown_20 (lv_at hl 2 rfl) ?_
      refine lv_icmp_ge (tgt := 47) hx hb dX6_edgesDown_22 (by decide) (fun c3 => ?_) (fun c3 => ?_)
      · have h := it_p h c3
        exact hK_X6_edgesDown_18_47 vL18_0 _ _ _ hP hD hS (lv_sub hl [1] rfl) h
      have h := it_n h c3
      refine lv_lload_n hx hb dX6_edgesDown_25 rfl (lv_at hl 0 rfl) ?_
      refine lv_lload_n hx hb dX6_edgesDown_26 rfl (lv_at hl 0 rfl) ?_
      refine lv_iload hx hb dX6_edgesDown_27 (lv_at hl 3 rfl) ?_
      obtain ⟨x4, hx4, h⟩ := bd_e h
      try dsimp only at h
      refine k_SiU (n := 2) (As := [.long x1, .int vL18_1]) (rest := [.long x1]) hx hb hml hown hts (c_X6_nth l G cI cJ cD cH H.size x1 vL18_1 x4 hx4) gX6_edgesDown_X6_nth rfl rfl rfl (by decide +kernel) ⟨by first | exact Nat.le_of_ble_eq_true rfl | (simp only [headSpec]; omega), by first | exact Nat.le_of_ble_eq_true rfl | (simp only [headSpec]; omega)⟩ hK hP hD hS hA [] (by decide) rfl rfl rfl hl.1 (Nat.le_of_ble_eq_true rfl) dX6_edgesDown_29 ⟨Nat.zero_le _, Nat.zero_le _⟩ (fun hp4 H locs hP hS => ?_)
      obtain ⟨x5, hx5, h⟩ := bd_e h
      try dsimp only at h
      refine k_SiU (n := 2) (As := [.long x1, .int x4]) (rest := []) hx hb hml hown hts (c_X6_isOutermost l G cI cJ cD cH H.size x1 x4 x5 hx5) gX6_edgesDown_X6_isOutermost rfl rfl rfl (by decide +kernel) ⟨by first | exact Nat.le_of_ble_eq_true rfl | (simp only [headSpec]; omega), by first | exact Nat.le_of_ble_eq_true rfl | (simp only [headSpec]; omega)⟩ hK hP hD hS hA [] (by decide) rfl rfl rfl hl.1 (Nat.le_of_ble_eq_true rfl) dX6_edgesDown_32 ⟨Nat.zero_le _, Nat.zero_le _⟩ (fun hp5 H locs hP hS => ?_)
      refine lv_if_eq (tgt := 41) hx hb dX6_edgesDown_35 (by decide) (fun c6 => ?_) (fun c6 => ?_)
      · have h := it_p h c6
        refine lv_iinc (v := (vL18_1 + (1 : Int32))) (lv' := [(7, .int (vL18_1 + (1 : Int32))), (3, .long x1), (5, .int vL18_0), (6, .int x2)]) hx hb dX6_edgesDown_41 hl (k := 3) rfl (by first | rfl | decide) (by decide) rfl (fun ls hl => ?_)
        refine lv_goto (tgt := 18) hx hb dX6_edgesDown_44 (by decide) ?_
        exact ih18 vL18_0 (vL18_1 + (1 : Int32)) _ _ _ hP hD hS (lv_sub hl [1, 2, 3, 0] rfl) h
      have h := it_n h c6
      refine lv_iinc (v := (vL18_0 + (1 : Int32))) (lv' := [(5, .int (vL18_0 + (1 : Int32))), (3, .long x1), (6, .int x2), (7, .int vL18_1)]) hx hb dX6_edgesDown_38 hl (k := 1) rfl (by first | rfl | decide) (by decide) rfl (fun ls hl => ?_)
      refine lv_iinc (v := (vL18_1 + (1 : Int32))) (lv' := [(7, .int (vL18_1 + (1 : Int32))), (5, .int (vL18_0 + (1 : Int32))), (3, .long x1), (6, .int x2)]) hx hb dX6_edgesDown_41 hl (k := 3) rfl (by first | rfl | decide) (by decide) rfl (fun ls hl => ?_)
      refine lv_goto (tgt := 18) hx hb dX6_edgesDown_44 (by decide) ?_
      exact ih18 (vL18_0 + (1 : Int32)) (vL18_1 + (1 : Int32)) _ _ _ hP hD hS (lv_sub hl [2, 1, 3, 0] rfl) h
  exact hL18 FU (0 : Int32) (0 : Int32) _ _ _ hP hD hS (lv_sub hl [3, 2, 1, 0] rfl) h

/-! X6_countMore -/
set_option maxHeartbeats 4000000 in
set_option maxRecDepth 100000 in
theorem c_X6_countMore (l : Launch) : ∀ (d : Nat) (G : va_G) (cI cJ cD cH : ClassId) (sz : Nat) (p0 : Int32) (p1 : Int32) (p2 : Int64) (p3 : Int32) (r0 : Int32) (hF : F_X6_countMore d p0 p1 p2 p3 = some r0), Met l yX6_countMore wsX6_countMore ({ frames := d + 3, cells := 0, slots := 0, locals := 26 * d + 71 }) (k_pre G (k_T cI cJ cD cH) [] sz [.int p0, .int p1, .long p2, .int p3]) (va_Qi (fun r (_ : Unit) => r = r0 ∧ True) (fun _ t => va_P G vwCl [] t.heap) (va_A [] sz)) 0 0 (va_A [] sz) := by
  intro d
  induction d with
  | zero => intro G cI cJ cD cH sz p0 p1 p2 p3 r0 hF; cases hF
  | succ d ihd =>
    intro G cI cJ cD cH sz p0 p1 p2 p3 r0 hF
    refine Met.ofW (cc := cX6_countMore) (maxL := 7) (ret := (some .int)) (by decide) rfl ?_
    intro p e s m args below meth c s₁ B hml hv
    obtain ⟨rfl, hsz, hP, hK, hD0⟩ := hv
    have hx := B.exec
    have hb := B.bytes
    have hr := B.returns
    have hts := atoms_spec (ws := wsX6_countMore) B.pre
    have hta : ∀ w ∈ wA, w.before ([.int p0, .int p1, .long p2, .int p3] : List Value).toArray s = true := hta_of hts
    have hown : s.vm.findClass RX6 = some m.cls := findClass_of_methodNamed B.named
    have hlocks := B.notSynchronized
    subst hsz
    have hD := hD0.self (sz := s.heap.size)
    generalize hAe : va_A [] s.heap.size = A at hD ⊢
    have hA : ∀ q : Nat, s.heap.size ≤ q → A q := fun q h => by rw [← hAe]; exact Or.inr h
    have hS : va_S A s.heap s.heap [] := va_S.rf
    have hl := lv_entry ([.int p0, .int p1, .long p2, .int p3]) (n := 7) (Nat.le_of_ble_eq_true rfl)
    rw [lg_entry_eq]
    generalize (lg_sl ([.int p0, .int p1, .long p2, .int p3]) ++ List.replicate (7 - (lg_sl ([.int p0, .int p1, .long p2, .int p3])).length) Slot.unset).toArray = ls at hl ⊢
    have hl : lv_has ls 7 [(0, .int p0), (1, .int p1), (2, .long p2), (4, .int p3)] := hl
    have h : G_X6_countMore (F_X6_countMore d) p0 p1 p2 p3 = some r0 := hF
    unfold G_X6_countMore at h
    refine lv_iload_n hx hb dX6_countMore_0 rfl (lv_at hl 1 rfl) ?_
    refine lv_if_gt (tgt := 6) hx hb dX6_countMore_1 (by decide) (fun c1 => ?_) (fun c1 => ?_)
    rotate_left
    · have h := it_n h c1
      refine lv_iconst (v := (1 : Int32)) hx hb dX6_countMore_4 (by decide) ?_
      have h9 := Option.some.inj h
      have e9 : (1 : Int32) = r0 := congrArg (fun z9 => z9) h9
      rw [← e9]
      exact k_iret hx hb hr hlocks hP hS rfl dX6_countMore_5
    have h := it_p h c1
    refine lv_lload_n hx hb dX6_countMore_6 rfl (lv_at hl 2 rfl) ?_
    obtain ⟨x2, hx2, h⟩ := bd_e h
    try dsimp only at h
    refine k_SiU (n := 1) (As := [.long p2]) (rest := []) hx hb hml hown hts (c_X6_sizeOf l G cI cJ cD cH s.heap.size p2 x2 hx2) gX6_countMore_X6_sizeOf rfl rfl rfl (by decide +kernel) ⟨by first | exact Nat.le_of_ble_eq_true rfl | (simp only [headSpec]; omega), by first | exact Nat.le_of_ble_eq_true rfl | (simp only [headSpec]; omega)⟩ hK hP hD hS hA [] (by decide) rfl rfl rfl hl.1 (Nat.le_of_ble_eq_true rfl) dX6_countMore_7 ⟨Nat.zero_le _, Nat.zero_le _⟩ (fun hp2 H locs hP hS => ?_)
    refine lv_iload_n hx hb dX6_countMore_10 rfl (lv_at hl 1 rfl) ?_
    refine lv_iadd hx hb dX6_countMore_11 ?_
    refine lv_iload_n hx hb dX6_countMore_12 rfl (lv_at hl 0 rfl) ?_
    refine lv_iconst (v := (3 : Int32)) hx hb dX6_countMore_13 (by decide) ?_
    refine lv_isub hx hb dX6_countMore_14 ?_
    refine lv_icmp_le (tgt := 20) hx hb dX6_countMore_15 (by decide) (fun c3 => ?_) (fun c3 => ?_)
    rotate_left
    · have h := it_n h c3
      refine lv_iconst (v := (0 : Int32)) hx hb dX6_countMore_18 (by decide) ?_
      have h9 := Option.some.inj h
      have e9 : (0 : Int32) = r0 := congrArg (fun z9 => z9) h9
      rw [← e9]
      exact k_iret hx hb hr hlocks hP hS rfl dX6_countMore_19
    have h := it_p h c3
    refine lv_iconst (v := (0 : Int32)) hx hb dX6_countMore_20 (by decide) ?_
    refine lv_istore (lv' := [(5, .int (0 : Int32)), (0, .int p0), (1, .int p1), (2, .long p2), (4, .int p3)]) hx hb dX6_countMore_21 hl (by decide) rfl (fun ls hl => ?_)
    refine lv_iload hx hb dX6_countMore_23 (lv_at hl 4 rfl) ?_
    refine lv_istore (lv' := [(6, .int p3), (5, .int (0 : Int32)), (0, .int p0), (1, .int p1), (2, .long p2), (4, .int p3)]) hx hb dX6_countMore_25 hl (by decide) rfl (fun ls hl => ?_)
    have hK_X6_countMore_27_81 : ∀  (vK27_81_0 : Int32) (H : Heap) (locs : List Loc) (ls : Array Slot), va_P G vwCl [] H → va_D A [] → va_S A s.heap H locs → lv_has ls 7 [(5, .int vK27_81_0)] → K_X6_countMore_27_81 vK27_81_0 = some r0 → W p l e (headSpec wsX6_countMore ({ frames := (d + 1) + 3, cells := 0, slots := 0, locals := 26 * (d + 1) + 71 })).room s m ([.int p0, .int p1, .long p2, .int p3] : List Value).toArray below meth c H locs 0 0 (MQ below (va_Qi (fun r (_ : Unit) => r = r0 ∧ True) (fun _ t => va_P G vwCl [] t.heap) A) ([.int p0, .int p1, .long p2, .int p3] : List Value).toArray s 0 0 A) (F0 m 81 ls []) := by
      intro vK27_81_0 H locs ls hP hD hS hl h
      unfold K_X6_countMore_27_81 at h
      refine lv_iload hx hb dX6_countMore_81 (lv_at hl 0 rfl) ?_
      have h9 := Option.some.inj h
      have e9 : vK27_81_0 = r0 := congrArg (fun z9 => z9) h9
      rw [← e9]
      exact k_iret hx hb hr hlocks hP hS rfl dX6_countMore_83
    have hL27 : ∀ (n27 : Nat) (vL27_0 : Int32) (vL27_1 : Int32) (H : Heap) (locs : List Loc) (ls : Array Slot), va_P G vwCl [] H → va_D A [] → va_S A s.heap H locs → lv_has ls 7 [(0, .int p0), (1, .int p1), (2, .long p2), (5, .int vL27_0), (6, .int vL27_1)] → wq2 (B_X6_countMore_27 (F_X6_countMore d) p0 p1 p2 K_X6_countMore_27_81) n27 vL27_0 vL27_1 = some r0 → W p l e (headSpec wsX6_countMore ({ frames := (d + 1) + 3, cells := 0, slots := 0, locals := 26 * (d + 1) + 71 })).room s m ([.int p0, .int p1, .long p2, .int p3] : List Value).toArray below meth c H locs 0 0 (MQ below (va_Qi (fun r (_ : Unit) => r = r0 ∧ True) (fun _ t => va_P G vwCl [] t.heap) A) ([.int p0, .int p1, .long p2, .int p3] : List Value).toArray s 0 0 A) (F0 m 27 ls []) := by
      intro n27
      induction n27 with
      | zero => intro vL27_0 vL27_1 H locs ls hP hD hS hl h; exact wq2_0 h
      | succ n27 ih27 =>
        intro vL27_0 vL27_1 H locs ls hP hD hS hl h
        have h := wq2_s h
        unfold B_X6_countMore_27 at h
        refine lv_iload hx hb dX6_countMore_27 (lv_at hl 4 rfl) ?_
        refine lv_iconst (v := (1 : Int32)) hx hb dX6_countMore_29 (by decide) ?_
        refine lv_iload_n hx hb dX6_countMore_30 rfl (lv_at hl 0 rfl) ?_
        refine lv_ishl hx hb dX6_countMore_31 ?_
        refine lv_icmp_ge (tgt := 81) hx hb dX6_countMore_32 (by decide) (fun c4 => ?_) (fun c4 => ?_)
        · have h := it_p h c4
          exact hK_X6_countMore_27_81 vL27_0 _ _ _ hP hD hS (lv_sub hl [3] rfl) h
        have h := it_n h c4
        refine lv_iload hx hb dX6_countMore_35 (lv_at hl 4 rfl) ?_
        refine lv_iload_n hx hb dX6_countMore_37 rfl (lv_at hl 0 rfl) ?_
        obtain ⟨x5, hx5, h⟩ := bd_e h
        try dsimp only at h
        refine k_SiU (n := 2) (As := [.int vL27_1, .int p0]) (rest := []) hx hb hml hown hts (c_X6_isSplit l G cI cJ cD cH H.size vL27_1 p0 x5 hx5) gX6_countMore_X6_isSplit rfl rfl rfl (by decide +kernel) ⟨by first | exact Nat.le_of_ble_eq_true rfl | (simp only [headSpec]; omega), by first | exact Nat.le_of_ble_eq_true rfl | (simp only [headSpec]; omega)⟩ hK hP hD hS hA [] (by decide) rfl rfl rfl hl.1 (Nat.le_of_ble_eq_true rfl) dX6_countMore_38 ⟨Nat.zero_le _, Nat.zero_le _⟩ (fun hp5 H locs hP hS => ?_)
        refine lv_if_eq (tgt := 75) hx hb dX6_countMore_41 (by decide) (fun c6 => ?_) (fun c6 => ?_)
        · have h := it_p h c6
          refine lv_iinc (v := (vL27_1 + (2 : Int32))) (lv' := [(6, .int (vL27_1 + (2 : Int32))), (0, .int p0), (1, .int p1), (2, .long p2), (5, .int vL27_0)]) hx hb dX6_countMore_75 hl (k := 4) rfl (by first | rfl | decide) (by decide) rfl (fun ls hl => ?_)
          refine lv_goto (tgt := 27) hx hb dX6_countMore_78 (by decide) ?_
          exact ih27 vL27_0 (vL27_1 + (2 : Int32)) _ _ _ hP hD hS (lv_sub hl [1, 2, 3, 4, 0] rfl) h
        have h := it_n h c6
        refine lv_lload_n hx hb dX6_countMore_44 rfl (lv_at hl 2 rfl) ?_
        refine lv_iload hx hb dX6_countMore_45 (lv_at hl 4 rfl) ?_
        obtain ⟨x7, hx7, h⟩ := bd_e h
        try dsimp only at h
        refine k_SiU (n := 2) (As := [.long p2, .int vL27_1]) (rest := []) hx hb hml hown hts (c_X6_fits l G cI cJ cD cH H.size p2 vL27_1 x7 hx7) gX6_countMore_X6_fits rfl rfl rfl (by decide +kernel) ⟨by first | exact Nat.le_of_ble_eq_true rfl | (simp only [headSpec]; omega), by first | exact Nat.le_of_ble_eq_true rfl | (simp only [headSpec]; omega)⟩ hK hP hD hS hA [] (by decide) rfl rfl rfl hl.1 (Nat.le_of_ble_eq_true rfl) dX6_countMore_47 ⟨Nat.zero_le _, Nat.zero_le _⟩ (fun hp7 H locs hP hS => ?_)
        refine lv_if_eq (tgt := 75) hx hb dX6_countMore_50 (by decide) (fun c8 => ?_) (fun c8 => ?_)
        · have h := it_p h c8
          refine lv_iinc (v := (vL27_1 + (2 : Int32))) (lv' := [(6, .int (vL27_1 + (2 : Int32))), (0, .int p0), (1, .int p1), (2, .long p2), (5, .int vL27_0)]) hx hb dX6_countMore_75 hl (k := 4) rfl (by first | rfl | decide) (by decide) rfl (fun ls hl => ?_)
          refine lv_goto (tgt := 27) hx hb dX6_countMore_78 (by decide) ?_
          exact ih27 vL27_0 (vL27_1 + (2 : Int32)) _ _ _ hP hD hS (lv_sub hl [1, 2, 3, 4, 0] rfl) h
        have h := it_n h c8
        refine lv_iload hx hb dX6_countMore_53 (lv_at hl 3 rfl) ?_
        refine lv_iload_n hx hb dX6_countMore_55 rfl (lv_at hl 0 rfl) ?_
        refine lv_iload_n hx hb dX6_countMore_56 rfl (lv_at hl 1 rfl) ?_
        refine lv_iconst (v := (1 : Int32)) hx hb dX6_countMore_57 (by decide) ?_
        refine lv_isub hx hb dX6_countMore_58 ?_
        refine lv_lload_n hx hb dX6_countMore_59 rfl (lv_at hl 2 rfl) ?_
        refine lv_iload hx hb dX6_countMore_60 (lv_at hl 4 rfl) ?_
        obtain ⟨x9, hx9, h⟩ := bd_e h
        try dsimp only at h
        refine k_SlU (n := 2) (As := [.long p2, .int vL27_1]) (rest := [.int (p1 - (1 : Int32)), .int p0, .int vL27_0]) hx hb hml hown hts (c_X6_with l G cI cJ cD cH H.size p2 vL27_1 x9 hx9) gX6_countMore_X6_with rfl rfl rfl (by decide +kernel) ⟨by first | exact Nat.le_of_ble_eq_true rfl | (simp only [headSpec]; omega), by first | exact Nat.le_of_ble_eq_true rfl | (simp only [headSpec]; omega)⟩ hK hP hD hS hA [] (by decide) rfl rfl rfl hl.1 (Nat.le_of_ble_eq_true rfl) dX6_countMore_62 ⟨Nat.zero_le _, Nat.zero_le _⟩ (fun hp9 H locs hP hS => ?_)
        refine lv_iload hx hb dX6_countMore_65 (lv_at hl 4 rfl) ?_
        refine lv_iconst (v := (2 : Int32)) hx hb dX6_countMore_67 (by decide) ?_
        refine lv_iadd hx hb dX6_countMore_68 ?_
        obtain ⟨x10, hx10, h⟩ := bd_e h
        try dsimp only at h
        refine k_SiU (n := 4) (As := [.int p0, .int (p1 - (1 : Int32)), .long x9, .int (vL27_1 + (2 : Int32))]) (rest := [.int vL27_0]) hx hb hml hown hts (ihd G cI cJ cD cH H.size p0 (p1 - (1 : Int32)) x9 (vL27_1 + (2 : Int32)) x10 hx10) gX6_countMore_X6_countMore rfl rfl rfl (by decide +kernel) ⟨by first | exact Nat.le_of_ble_eq_true rfl | (simp only [headSpec]; omega), by first | exact Nat.le_of_ble_eq_true rfl | (simp only [headSpec]; omega)⟩ hK hP hD hS hA [] (by decide) rfl rfl rfl hl.1 (Nat.le_of_ble_eq_true rfl) dX6_countMore_69 ⟨Nat.zero_le _, Nat.zero_le _⟩ (fun hp10 H locs hP hS => ?_)
        refine lv_iadd hx hb dX6_countMore_72 ?_
        refine lv_istore (lv' := [(5, .int (vL27_0 + x10)), (0, .int p0), (1, .int p1), (2, .long p2), (6, .int vL27_1)]) hx hb dX6_countMore_73 hl (by decide) rfl (fun ls hl => ?_)
        refine lv_iinc (v := (vL27_1 + (2 : Int32))) (lv' := [(6, .int (vL27_1 + (2 : Int32))), (5, .int (vL27_0 + x10)), (0, .int p0), (1, .int p1), (2, .long p2)]) hx hb dX6_countMore_75 hl (k := 4) rfl (by first | rfl | decide) (by decide) rfl (fun ls hl => ?_)
        refine lv_goto (tgt := 27) hx hb dX6_countMore_78 (by decide) ?_
        exact ih27 (vL27_0 + x10) (vL27_1 + (2 : Int32)) _ _ _ hP hD hS (lv_sub hl [2, 3, 4, 1, 0] rfl) h
    exact hL27 FU (0 : Int32) p3 _ _ _ hP hD hS (lv_sub hl [2, 3, 4, 1, 0] rfl) h

/-! X6_countTrees -/
set_option maxHeartbeats 4000000 in
set_option maxRecDepth 100000 in
theorem c_X6_countTrees (l : Launch) (G : va_G) (cI cJ cD cH : ClassId) (sz : Nat) (p0 : Int32) (p1 : Int32) (r0 : Int32) (hF : F_X6_countTrees p0 p1 = some r0) : Met l yX6_countTrees wsX6_countTrees ({ frames := 12, cells := 0, slots := 0, locals := 305 }) (k_pre G (k_T cI cJ cD cH) [] sz [.int p0, .int p1]) (va_Qi (fun r (_ : Unit) => r = r0 ∧ True) (fun _ t => va_P G vwCl [] t.heap) (va_A [] sz)) 0 0 (va_A [] sz) := by
  refine Met.ofW (cc := cX6_countTrees) (maxL := 2) (ret := (some .int)) (by decide) rfl ?_
  intro p e s m args below meth c s₁ B hml hv
  obtain ⟨rfl, hsz, hP, hK, hD0⟩ := hv
  have hx := B.exec
  have hb := B.bytes
  have hr := B.returns
  have hts := atoms_spec (ws := wsX6_countTrees) B.pre
  have hta : ∀ w ∈ wA, w.before ([.int p0, .int p1] : List Value).toArray s = true := hta_of hts
  have hown : s.vm.findClass RX6 = some m.cls := findClass_of_methodNamed B.named
  have hlocks := B.notSynchronized
  subst hsz
  have hD := hD0.self (sz := s.heap.size)
  generalize hAe : va_A [] s.heap.size = A at hD ⊢
  have hA : ∀ q : Nat, s.heap.size ≤ q → A q := fun q h => by rw [← hAe]; exact Or.inr h
  have hS : va_S A s.heap s.heap [] := va_S.rf
  have hl := lv_entry ([.int p0, .int p1]) (n := 2) (Nat.le_of_ble_eq_true rfl)
  rw [lg_entry_eq]
  generalize (lg_sl ([.int p0, .int p1]) ++ List.replicate (2 - (lg_sl ([.int p0, .int p1])).length) Slot.unset).toArray = ls at hl ⊢
  have hl : lv_has ls 2 [(0, .int p0), (1, .int p1)] := hl
  have h := hF
  unfold F_X6_countTrees at h
  refine lv_iload_n hx hb dX6_countTrees_0 rfl (lv_at hl 0 rfl) ?_
  refine lv_iload_n hx hb dX6_countTrees_1 rfl (lv_at hl 1 rfl) ?_
  refine lv_lconst (v := (0 : Int64)) hx hb dX6_countTrees_2 (by decide) ?_
  refine lv_iconst (v := (2 : Int32)) hx hb dX6_countTrees_3 (by decide) ?_
  obtain ⟨x1, hx1, h⟩ := bd_e h
  try dsimp only at h
  refine k_SiU (n := 4) (As := [.int p0, .int p1, .long (0 : Int64), .int (2 : Int32)]) (rest := []) hx hb hml hown hts (c_X6_countMore l 8 G cI cJ cD cH s.heap.size p0 p1 (0 : Int64) (2 : Int32) x1 hx1) gX6_countTrees_X6_countMore rfl rfl rfl (by decide +kernel) ⟨by first | exact Nat.le_of_ble_eq_true rfl | (simp only [headSpec]; omega), by first | exact Nat.le_of_ble_eq_true rfl | (simp only [headSpec]; omega)⟩ hK hP hD hS hA [] (by decide) rfl rfl rfl hl.1 (Nat.le_of_ble_eq_true rfl) dX6_countTrees_4 ⟨Nat.zero_le _, Nat.zero_le _⟩ (fun hp1 H locs hP hS => ?_)
  have h9 := Option.some.inj h
  have e9 : x1 = r0 := congrArg (fun z9 => z9) h9
  rw [← e9]
  exact k_iret hx hb hr hlocks hP hS rfl dX6_countTrees_7

/-! X6_treeAt -/
set_option maxHeartbeats 4000000 in
set_option maxRecDepth 100000 in
theorem c_X6_treeAt (l : Launch) (G : va_G) (cI cJ cD cH : ClassId) (sz : Nat) (p0 : Int32) (p1 : Int32) (p2 : Int32) (r0 : Int64) (hF : F_X6_treeAt p0 p1 p2 = some r0) : Met l yX6_treeAt wsX6_treeAt ({ frames := 12, cells := 0, slots := 0, locals := 305 }) (k_pre G (k_T cI cJ cD cH) [] sz [.int p0, .int p1, .int p2]) (va_Ql (fun r (_ : Unit) => r = r0 ∧ True) (fun _ t => va_P G vwCl [] t.heap) (va_A [] sz)) 0 0 (va_A [] sz) := by
  refine Met.ofW (cc := cX6_treeAt) (maxL := 11) (ret := (some .long)) (by decide) rfl ?_
  intro p e s m args below meth c s₁ B hml hv
  obtain ⟨rfl, hsz, hP, hK, hD0⟩ := hv
  have hx := B.exec
  have hb := B.bytes
  have hr := B.returns
  have hts := atoms_spec (ws := wsX6_treeAt) B.pre
  have hta : ∀ w ∈ wA, w.before ([.int p0, .int p1, .int p2] : List Value).toArray s = true := hta_of hts
  have hown : s.vm.findClass RX6 = some m.cls := findClass_of_methodNamed B.named
  have hlocks := B.notSynchronized
  subst hsz
  have hD := hD0.self (sz := s.heap.size)
  generalize hAe : va_A [] s.heap.size = A at hD ⊢
  have hA : ∀ q : Nat, s.heap.size ≤ q → A q := fun q h => by rw [← hAe]; exact Or.inr h
  have hS : va_S A s.heap s.heap [] := va_S.rf
  have hl := lv_entry ([.int p0, .int p1, .int p2]) (n := 11) (Nat.le_of_ble_eq_true rfl)
  rw [lg_entry_eq]
  generalize (lg_sl ([.int p0, .int p1, .int p2]) ++ List.replicate (11 - (lg_sl ([.int p0, .int p1, .int p2])).length) Slot.unset).toArray = ls at hl ⊢
  have hl : lv_has ls 11 [(0, .int p0), (1, .int p1), (2, .int p2)] := hl
  have h := hF
  unfold F_X6_treeAt at h
  refine lv_lconst (v := (0 : Int64)) hx hb dX6_treeAt_0 (by decide) ?_
  refine lv_lstore_n (lv' := [(3, .long (0 : Int64)), (0, .int p0), (1, .int p1), (2, .int p2)]) hx hb dX6_treeAt_1 rfl hl (by decide) rfl (fun ls hl => ?_)
  refine lv_iconst (v := (2 : Int32)) hx hb dX6_treeAt_2 (by decide) ?_
  refine lv_istore (lv' := [(5, .int (2 : Int32)), (3, .long (0 : Int64)), (0, .int p0), (1, .int p1), (2, .int p2)]) hx hb dX6_treeAt_3 hl (by decide) rfl (fun ls hl => ?_)
  refine lv_iload_n hx hb dX6_treeAt_5 rfl (lv_at hl 4 rfl) ?_
  refine lv_istore (lv' := [(6, .int p2), (5, .int (2 : Int32)), (3, .long (0 : Int64)), (0, .int p0), (1, .int p1), (2, .int p2)]) hx hb dX6_treeAt_6 hl (by decide) rfl (fun ls hl => ?_)
  refine lv_iload_n hx hb dX6_treeAt_8 rfl (lv_at hl 4 rfl) ?_
  refine lv_iconst (v := (1 : Int32)) hx hb dX6_treeAt_9 (by decide) ?_
  refine lv_isub hx hb dX6_treeAt_10 ?_
  refine lv_istore (lv' := [(7, .int (p1 - (1 : Int32))), (6, .int p2), (5, .int (2 : Int32)), (3, .long (0 : Int64)), (0, .int p0), (1, .int p1), (2, .int p2)]) hx hb dX6_treeAt_11 hl (by decide) rfl (fun ls hl => ?_)
  have hK_X6_treeAt_13_129 : ∀  (vK13_129_0 : Int64) (H : Heap) (locs : List Loc) (ls : Array Slot), va_P G vwCl [] H → va_D A [] → va_S A s.heap H locs → lv_has ls 11 [(3, .long vK13_129_0)] → K_X6_treeAt_13_129 vK13_129_0 = some r0 → W p l e (headSpec wsX6_treeAt ({ frames := 12, cells := 0, slots := 0, locals := 305 })).room s m ([.int p0, .int p1, .int p2] : List Value).toArray below meth c H locs 0 0 (MQ below (va_Ql (fun r (_ : Unit) => r = r0 ∧ True) (fun _ t => va_P G vwCl [] t.heap) A) ([.int p0, .int p1, .int p2] : List Value).toArray s 0 0 A) (F0 m 129 ls []) := by
    intro vK13_129_0 H locs ls hP hD hS hl h
    unfold K_X6_treeAt_13_129 at h
    refine lv_lload_n hx hb dX6_treeAt_129 rfl (lv_at hl 0 rfl) ?_
    have h9 := Option.some.inj h
    have e9 : vK13_129_0 = r0 := congrArg (fun z9 => z9) h9
    rw [← e9]
    exact k_lret hx hb hr hlocks hP hS rfl dX6_treeAt_130
  have hL13 : ∀ (n13 : Nat) (vL13_0 : Int64) (vL13_1 : Int32) (vL13_2 : Int32) (vL13_3 : Int32) (H : Heap) (locs : List Loc) (ls : Array Slot), va_P G vwCl [] H → va_D A [] → va_S A s.heap H locs → lv_has ls 11 [(0, .int p0), (3, .long vL13_0), (5, .int vL13_1), (6, .int vL13_2), (7, .int vL13_3)] → wq4 (B_X6_treeAt_13 p0 K_X6_treeAt_13_129) n13 vL13_0 vL13_1 vL13_2 vL13_3 = some r0 → W p l e (headSpec wsX6_treeAt ({ frames := 12, cells := 0, slots := 0, locals := 305 })).room s m ([.int p0, .int p1, .int p2] : List Value).toArray below meth c H locs 0 0 (MQ below (va_Ql (fun r (_ : Unit) => r = r0 ∧ True) (fun _ t => va_P G vwCl [] t.heap) A) ([.int p0, .int p1, .int p2] : List Value).toArray s 0 0 A) (F0 m 13 ls []) := by
    intro n13
    induction n13 with
    | zero => intro vL13_0 vL13_1 vL13_2 vL13_3 H locs ls hP hD hS hl h; exact wq4_0 h
    | succ n13 ih13 =>
      intro vL13_0 vL13_1 vL13_2 vL13_3 H locs ls hP hD hS hl h
      have h := wq4_s h
      unfold B_X6_treeAt_13 at h
      refine lv_iload hx hb dX6_treeAt_13 (lv_at hl 4 rfl) ?_
      refine lv_if_lt (tgt := 129) hx hb dX6_treeAt_15 (by decide) (fun c1 => ?_) (fun c1 => ?_)
      · have h := it_p h c1
        exact hK_X6_treeAt_13_129 vL13_0 _ _ _ hP hD hS (lv_sub hl [1] rfl) h
      have h := it_n h c1
      refine lv_iconst (v := (0 : Int32)) hx hb dX6_treeAt_18 (by decide) ?_
      refine lv_istore (lv' := [(8, .int (0 : Int32)), (0, .int p0), (3, .long vL13_0), (5, .int vL13_1), (6, .int vL13_2), (7, .int vL13_3)]) hx hb dX6_treeAt_19 hl (by decide) rfl (fun ls hl => ?_)
      refine lv_iload hx hb dX6_treeAt_21 (lv_at hl 3 rfl) ?_
      refine lv_istore (lv' := [(9, .int vL13_1), (8, .int (0 : Int32)), (0, .int p0), (3, .long vL13_0), (5, .int vL13_1), (6, .int vL13_2), (7, .int vL13_3)]) hx hb dX6_treeAt_23 hl (by decide) rfl (fun ls hl => ?_)
      have hK_X6_treeAt_25_116 : ∀  (vK25_116_0 : Int64) (vK25_116_1 : Int32) (vK25_116_2 : Int32) (vK25_116_3 : Int32) (H : Heap) (locs : List Loc) (ls : Array Slot), va_P G vwCl [] H → va_D A [] → va_S A s.heap H locs → lv_has ls 11 [(0, .int p0), (3, .long vK25_116_0), (5, .int vK25_116_1), (6, .int vK25_116_2), (7, .int vL13_3), (8, .int vK25_116_3)] → K_X6_treeAt_25_116 vL13_3 (wq4 (B_X6_treeAt_13 p0 K_X6_treeAt_13_129) n13) vK25_116_0 vK25_116_1 vK25_116_2 vK25_116_3 = some r0 → W p l e (headSpec wsX6_treeAt ({ frames := 12, cells := 0, slots := 0, locals := 305 })).room s m ([.int p0, .int p1, .int p2] : List Value).toArray below meth c H locs 0 0 (MQ below (va_Ql (fun r (_ : Unit) => r = r0 ∧ True) (fun _ t => va_P G vwCl [] t.heap) A) ([.int p0, .int p1, .int p2] : List Value).toArray s 0 0 A) (F0 m 116 ls []) := by
        intro vK25_116_0 vK25_116_1 vK25_116_2 vK25_116_3 H locs ls hP hD hS hl h
        unfold K_X6_treeAt_25_116 at h
        refine lv_iload hx hb dX6_treeAt_116 (lv_at hl 5 rfl) ?_
        refine lv_if_ne (tgt := 123) hx hb dX6_treeAt_118 (by decide) (fun c2 => ?_) (fun c2 => ?_)
        · have h := it_n h c2
          refine lv_iinc (v := (vL13_3 + (-1 : Int32))) (lv' := [(7, .int (vL13_3 + (-1 : Int32))), (0, .int p0), (3, .long vK25_116_0), (5, .int vK25_116_1), (6, .int vK25_116_2), (8, .int vK25_116_3)]) hx hb dX6_treeAt_123 hl (k := 4) rfl (by first | rfl | decide) (by decide) rfl (fun ls hl => ?_)
          refine lv_goto (tgt := 13) hx hb dX6_treeAt_126 (by decide) ?_
          exact ih13 vK25_116_0 vK25_116_1 vK25_116_2 (vL13_3 + (-1 : Int32)) _ _ _ hP hD hS (lv_sub hl [1, 2, 3, 4, 0] rfl) h
        have h := it_p h c2
        refine lv_lconst (v := (0 : Int64)) hx hb dX6_treeAt_121 (by decide) ?_
        have h9 := Option.some.inj h
        have e9 : (0 : Int64) = r0 := congrArg (fun z9 => z9) h9
        rw [← e9]
        exact k_lret hx hb hr hlocks hP hS rfl dX6_treeAt_122
      have hL25 : ∀ (n25 : Nat) (vL25_0 : Int64) (vL25_1 : Int32) (vL25_2 : Int32) (vL25_3 : Int32) (vL25_4 : Int32) (H : Heap) (locs : List Loc) (ls : Array Slot), va_P G vwCl [] H → va_D A [] → va_S A s.heap H locs → lv_has ls 11 [(0, .int p0), (3, .long vL25_0), (5, .int vL25_1), (6, .int vL25_2), (7, .int vL13_3), (8, .int vL25_3), (9, .int vL25_4)] → wq5 (B_X6_treeAt_25 p0 vL13_3 (K_X6_treeAt_25_116 vL13_3 (wq4 (B_X6_treeAt_13 p0 K_X6_treeAt_13_129) n13))) n25 vL25_0 vL25_1 vL25_2 vL25_3 vL25_4 = some r0 → W p l e (headSpec wsX6_treeAt ({ frames := 12, cells := 0, slots := 0, locals := 305 })).room s m ([.int p0, .int p1, .int p2] : List Value).toArray below meth c H locs 0 0 (MQ below (va_Ql (fun r (_ : Unit) => r = r0 ∧ True) (fun _ t => va_P G vwCl [] t.heap) A) ([.int p0, .int p1, .int p2] : List Value).toArray s 0 0 A) (F0 m 25 ls []) := by
        intro n25
        induction n25 with
        | zero => intro vL25_0 vL25_1 vL25_2 vL25_3 vL25_4 H locs ls hP hD hS hl h; exact wq5_0 h
        | succ n25 ih25 =>
          intro vL25_0 vL25_1 vL25_2 vL25_3 vL25_4 H locs ls hP hD hS hl h
          have h := wq5_s h
          unfold B_X6_treeAt_25 at h
          refine lv_iload hx hb dX6_treeAt_25 (lv_at hl 6 rfl) ?_
          refine lv_iconst (v := (1 : Int32)) hx hb dX6_treeAt_27 (by decide) ?_
          refine lv_iload_n hx hb dX6_treeAt_28 rfl (lv_at hl 0 rfl) ?_
          refine lv_ishl hx hb dX6_treeAt_29 ?_
          refine lv_icmp_ge (tgt := 116) hx hb dX6_treeAt_30 (by decide) (fun c3 => ?_) (fun c3 => ?_)
          · have h := it_p h c3
            exact hK_X6_treeAt_25_116 vL25_0 vL25_1 vL25_2 vL25_3 _ _ _ hP hD hS (lv_sub hl [0, 1, 2, 3, 4, 5] rfl) h
          have h := it_n h c3
          refine lv_iload hx hb dX6_treeAt_33 (lv_at hl 5 rfl) ?_
          refine lv_if_ne (tgt := 116) hx hb dX6_treeAt_35 (by decide) (fun c4 => ?_) (fun c4 => ?_)
          · have h := it_n h c4
            exact hK_X6_treeAt_25_116 vL25_0 vL25_1 vL25_2 vL25_3 _ _ _ hP hD hS (lv_sub hl [0, 1, 2, 3, 4, 5] rfl) h
          have h := it_p h c4
          refine lv_iload hx hb dX6_treeAt_38 (lv_at hl 6 rfl) ?_
          refine lv_iload_n hx hb dX6_treeAt_40 rfl (lv_at hl 0 rfl) ?_
          obtain ⟨x5, hx5, h⟩ := bd_e h
          try dsimp only at h
          refine k_SiU (n := 2) (As := [.int vL25_4, .int p0]) (rest := []) hx hb hml hown hts (c_X6_isSplit l G cI cJ cD cH H.size vL25_4 p0 x5 hx5) gX6_treeAt_X6_isSplit rfl rfl rfl (by decide +kernel) ⟨by first | exact Nat.le_of_ble_eq_true rfl | (simp only [headSpec]; omega), by first | exact Nat.le_of_ble_eq_true rfl | (simp only [headSpec]; omega)⟩ hK hP hD hS hA [] (by decide) rfl rfl rfl hl.1 (Nat.le_of_ble_eq_true rfl) dX6_treeAt_41 ⟨Nat.zero_le _, Nat.zero_le _⟩ (fun hp5 H locs hP hS => ?_)
          refine lv_if_eq (tgt := 110) hx hb dX6_treeAt_44 (by decide) (fun c6 => ?_) (fun c6 => ?_)
          · have h := it_p h c6
            refine lv_iinc (v := (vL25_4 + (2 : Int32))) (lv' := [(9, .int (vL25_4 + (2 : Int32))), (0, .int p0), (3, .long vL25_0), (5, .int vL25_1), (6, .int vL25_2), (7, .int vL13_3), (8, .int vL25_3)]) hx hb dX6_treeAt_110 hl (k := 6) rfl (by first | rfl | decide) (by decide) rfl (fun ls hl => ?_)
            refine lv_goto (tgt := 25) hx hb dX6_treeAt_113 (by decide) ?_
            exact ih25 vL25_0 vL25_1 vL25_2 vL25_3 (vL25_4 + (2 : Int32)) _ _ _ hP hD hS (lv_sub hl [1, 2, 3, 4, 5, 6, 0] rfl) h
          have h := it_n h c6
          refine lv_lload_n hx hb dX6_treeAt_47 rfl (lv_at hl 1 rfl) ?_
          refine lv_iload hx hb dX6_treeAt_48 (lv_at hl 6 rfl) ?_
          obtain ⟨x7, hx7, h⟩ := bd_e h
          try dsimp only at h
          refine k_SiU (n := 2) (As := [.long vL25_0, .int vL25_4]) (rest := []) hx hb hml hown hts (c_X6_fits l G cI cJ cD cH H.size vL25_0 vL25_4 x7 hx7) gX6_treeAt_X6_fits rfl rfl rfl (by decide +kernel) ⟨by first | exact Nat.le_of_ble_eq_true rfl | (simp only [headSpec]; omega), by first | exact Nat.le_of_ble_eq_true rfl | (simp only [headSpec]; omega)⟩ hK hP hD hS hA [] (by decide) rfl rfl rfl hl.1 (Nat.le_of_ble_eq_true rfl) dX6_treeAt_50 ⟨Nat.zero_le _, Nat.zero_le _⟩ (fun hp7 H locs hP hS => ?_)
          refine lv_if_ne (tgt := 59) hx hb dX6_treeAt_53 (by decide) (fun c8 => ?_) (fun c8 => ?_)
          rotate_left
          · have h := it_p h c8
            refine lv_goto (tgt := 110) hx hb dX6_treeAt_56 (by decide) ?_
            refine lv_iinc (v := (vL25_4 + (2 : Int32))) (lv' := [(9, .int (vL25_4 + (2 : Int32))), (0, .int p0), (3, .long vL25_0), (5, .int vL25_1), (6, .int vL25_2), (7, .int vL13_3), (8, .int vL25_3)]) hx hb dX6_treeAt_110 hl (k := 6) rfl (by first | rfl | decide) (by decide) rfl (fun ls hl => ?_)
            refine lv_goto (tgt := 25) hx hb dX6_treeAt_113 (by decide) ?_
            exact ih25 vL25_0 vL25_1 vL25_2 vL25_3 (vL25_4 + (2 : Int32)) _ _ _ hP hD hS (lv_sub hl [1, 2, 3, 4, 5, 6, 0] rfl) h
          have h := it_n h c8
          refine lv_iload_n hx hb dX6_treeAt_59 rfl (lv_at hl 0 rfl) ?_
          refine lv_iload hx hb dX6_treeAt_60 (lv_at hl 4 rfl) ?_
          refine lv_lload_n hx hb dX6_treeAt_62 rfl (lv_at hl 1 rfl) ?_
          refine lv_iload hx hb dX6_treeAt_63 (lv_at hl 6 rfl) ?_
          obtain ⟨x9, hx9, h⟩ := bd_e h
          try dsimp only at h
          refine k_SlU (n := 2) (As := [.long vL25_0, .int vL25_4]) (rest := [.int vL13_3, .int p0]) hx hb hml hown hts (c_X6_with l G cI cJ cD cH H.size vL25_0 vL25_4 x9 hx9) gX6_treeAt_X6_with rfl rfl rfl (by decide +kernel) ⟨by first | exact Nat.le_of_ble_eq_true rfl | (simp only [headSpec]; omega), by first | exact Nat.le_of_ble_eq_true rfl | (simp only [headSpec]; omega)⟩ hK hP hD hS hA [] (by decide) rfl rfl rfl hl.1 (Nat.le_of_ble_eq_true rfl) dX6_treeAt_65 ⟨Nat.zero_le _, Nat.zero_le _⟩ (fun hp9 H locs hP hS => ?_)
          refine lv_iload hx hb dX6_treeAt_68 (lv_at hl 6 rfl) ?_
          refine lv_iconst (v := (2 : Int32)) hx hb dX6_treeAt_70 (by decide) ?_
          refine lv_iadd hx hb dX6_treeAt_71 ?_
          obtain ⟨x10, hx10, h⟩ := bd_e h
          try dsimp only at h
          refine k_SiU (n := 4) (As := [.int p0, .int vL13_3, .long x9, .int (vL25_4 + (2 : Int32))]) (rest := []) hx hb hml hown hts (c_X6_countMore l 8 G cI cJ cD cH H.size p0 vL13_3 x9 (vL25_4 + (2 : Int32)) x10 hx10) gX6_treeAt_X6_countMore rfl rfl rfl (by decide +kernel) ⟨by first | exact Nat.le_of_ble_eq_true rfl | (simp only [headSpec]; omega), by first | exact Nat.le_of_ble_eq_true rfl | (simp only [headSpec]; omega)⟩ hK hP hD hS hA [] (by decide) rfl rfl rfl hl.1 (Nat.le_of_ble_eq_true rfl) dX6_treeAt_72 ⟨Nat.zero_le _, Nat.zero_le _⟩ (fun hp10 H locs hP hS => ?_)
          refine lv_istore (lv' := [(10, .int x10), (0, .int p0), (3, .long vL25_0), (5, .int vL25_1), (6, .int vL25_2), (7, .int vL13_3), (8, .int vL25_3), (9, .int vL25_4)]) hx hb dX6_treeAt_75 hl (by decide) rfl (fun ls hl => ?_)
          refine lv_iload hx hb dX6_treeAt_77 (lv_at hl 4 rfl) ?_
          refine lv_iload hx hb dX6_treeAt_79 (lv_at hl 0 rfl) ?_
          refine lv_icmp_ge (tgt := 103) hx hb dX6_treeAt_81 (by decide) (fun c11 => ?_) (fun c11 => ?_)
          · have h := it_p h c11
            refine lv_iload hx hb dX6_treeAt_103 (lv_at hl 4 rfl) ?_
            refine lv_iload hx hb dX6_treeAt_105 (lv_at hl 0 rfl) ?_
            refine lv_isub hx hb dX6_treeAt_107 ?_
            refine lv_istore (lv' := [(6, .int (vL25_2 - x10)), (10, .int x10), (0, .int p0), (3, .long vL25_0), (5, .int vL25_1), (7, .int vL13_3), (8, .int vL25_3), (9, .int vL25_4)]) hx hb dX6_treeAt_108 hl (by decide) rfl (fun ls hl => ?_)
            refine lv_iinc (v := (vL25_4 + (2 : Int32))) (lv' := [(9, .int (vL25_4 + (2 : Int32))), (6, .int (vL25_2 - x10)), (10, .int x10), (0, .int p0), (3, .long vL25_0), (5, .int vL25_1), (7, .int vL13_3), (8, .int vL25_3)]) hx hb dX6_treeAt_110 hl (k := 7) rfl (by first | rfl | decide) (by decide) rfl (fun ls hl => ?_)
            refine lv_goto (tgt := 25) hx hb dX6_treeAt_113 (by decide) ?_
            exact ih25 vL25_0 vL25_1 (vL25_2 - x10) vL25_3 (vL25_4 + (2 : Int32)) _ _ _ hP hD hS (lv_sub hl [3, 4, 5, 1, 6, 7, 0] rfl) h
          have h := it_n h c11
          refine lv_lload_n hx hb dX6_treeAt_84 rfl (lv_at hl 2 rfl) ?_
          refine lv_iload hx hb dX6_treeAt_85 (lv_at hl 7 rfl) ?_
          obtain ⟨x12, hx12, h⟩ := bd_e h
          try dsimp only at h
          refine k_SlU (n := 2) (As := [.long vL25_0, .int vL25_4]) (rest := []) hx hb hml hown hts (c_X6_with l G cI cJ cD cH H.size vL25_0 vL25_4 x12 hx12) gX6_treeAt_X6_with rfl rfl rfl (by decide +kernel) ⟨by first | exact Nat.le_of_ble_eq_true rfl | (simp only [headSpec]; omega), by first | exact Nat.le_of_ble_eq_true rfl | (simp only [headSpec]; omega)⟩ hK hP hD hS hA [] (by decide) rfl rfl rfl hl.1 (Nat.le_of_ble_eq_true rfl) dX6_treeAt_87 ⟨Nat.zero_le _, Nat.zero_le _⟩ (fun hp12 H locs hP hS => ?_)
          refine lv_lstore_n (lv' := [(3, .long x12), (10, .int x10), (0, .int p0), (5, .int vL25_1), (6, .int vL25_2), (7, .int vL13_3), (8, .int vL25_3), (9, .int vL25_4)]) hx hb dX6_treeAt_90 rfl hl (by decide) rfl (fun ls hl => ?_)
          refine lv_iload hx hb dX6_treeAt_91 (lv_at hl 7 rfl) ?_
          refine lv_iconst (v := (2 : Int32)) hx hb dX6_treeAt_93 (by decide) ?_
          refine lv_iadd hx hb dX6_treeAt_94 ?_
          refine lv_istore (lv' := [(5, .int (vL25_4 + (2 : Int32))), (3, .long x12), (10, .int x10), (0, .int p0), (6, .int vL25_2), (7, .int vL13_3), (8, .int vL25_3), (9, .int vL25_4)]) hx hb dX6_treeAt_95 hl (by decide) rfl (fun ls hl => ?_)
          refine lv_iconst (v := (1 : Int32)) hx hb dX6_treeAt_97 (by decide) ?_
          refine lv_istore (lv' := [(8, .int (1 : Int32)), (5, .int (vL25_4 + (2 : Int32))), (3, .long x12), (10, .int x10), (0, .int p0), (6, .int vL25_2), (7, .int vL13_3), (9, .int vL25_4)]) hx hb dX6_treeAt_98 hl (by decide) rfl (fun ls hl => ?_)
          refine lv_goto (tgt := 110) hx hb dX6_treeAt_100 (by decide) ?_
          refine lv_iinc (v := (vL25_4 + (2 : Int32))) (lv' := [(9, .int (vL25_4 + (2 : Int32))), (8, .int (1 : Int32)), (5, .int (vL25_4 + (2 : Int32))), (3, .long x12), (10, .int x10), (0, .int p0), (6, .int vL25_2), (7, .int vL13_3)]) hx hb dX6_treeAt_110 hl (k := 7) rfl (by first | rfl | decide) (by decide) rfl (fun ls hl => ?_)
          refine lv_goto (tgt := 25) hx hb dX6_treeAt_113 (by decide) ?_
          exact ih25 x12 (vL25_4 + (2 : Int32)) vL25_2 (1 : Int32) (vL25_4 + (2 : Int32)) _ _ _ hP hD hS (lv_sub hl [5, 3, 2, 6, 7, 1, 0] rfl) h
      exact hL25 FU vL13_0 vL13_1 vL13_2 (0 : Int32) vL13_1 _ _ _ hP hD hS (lv_sub hl [2, 3, 4, 5, 6, 1, 0] rfl) h
  exact hL13 FU (0 : Int64) (2 : Int32) p2 (p1 - (1 : Int32)) _ _ _ hP hD hS (lv_sub hl [4, 3, 2, 1, 0] rfl) h

/-! X6_leftWithout -/
set_option maxHeartbeats 4000000 in
set_option maxRecDepth 100000 in
theorem c_X6_leftWithout (l : Launch) (G : va_G) (cI cJ cD cH : ClassId) (sz : Nat) (p0 : Int32) (p1 : Int32) (p2 : Int32) (r0 : Int32) (hF : F_X6_leftWithout p0 p1 p2 = some r0) : Met l yX6_leftWithout wsX6_leftWithout ({ frames := 0, cells := 0, slots := 0, locals := 0 }) (k_pre G (k_T cI cJ cD cH) [] sz [.int p0, .int p1, .int p2]) (va_Qi (fun r (_ : Unit) => r = r0 ∧ True) (fun _ t => va_P G vwCl [] t.heap) (va_A [] sz)) 0 0 (va_A [] sz) := by
  refine Met.ofW (cc := cX6_leftWithout) (maxL := 7) (ret := (some .int)) (by decide) rfl ?_
  intro p e s m args below meth c s₁ B hml hv
  obtain ⟨rfl, hsz, hP, hK, hD0⟩ := hv
  have hx := B.exec
  have hb := B.bytes
  have hr := B.returns
  have hts := atoms_spec (ws := wsX6_leftWithout) B.pre
  have hta : ∀ w ∈ wA, w.before ([.int p0, .int p1, .int p2] : List Value).toArray s = true := hta_of hts
  have hown : s.vm.findClass RX6 = some m.cls := findClass_of_methodNamed B.named
  have hlocks := B.notSynchronized
  subst hsz
  have hD := hD0.self (sz := s.heap.size)
  generalize hAe : va_A [] s.heap.size = A at hD ⊢
  have hA : ∀ q : Nat, s.heap.size ≤ q → A q := fun q h => by rw [← hAe]; exact Or.inr h
  have hS : va_S A s.heap s.heap [] := va_S.rf
  have hl := lv_entry ([.int p0, .int p1, .int p2]) (n := 7) (Nat.le_of_ble_eq_true rfl)
  rw [lg_entry_eq]
  generalize (lg_sl ([.int p0, .int p1, .int p2]) ++ List.replicate (7 - (lg_sl ([.int p0, .int p1, .int p2])).length) Slot.unset).toArray = ls at hl ⊢
  have hl : lv_has ls 7 [(0, .int p0), (1, .int p1), (2, .int p2)] := hl
  have h := hF
  unfold F_X6_leftWithout at h
  refine lv_iload_n hx hb dX6_leftWithout_0 rfl (lv_at hl 0 rfl) ?_
  refine lv_iconst (v := (1 : Int32)) hx hb dX6_leftWithout_1 (by decide) ?_
  refine lv_iload_n hx hb dX6_leftWithout_2 rfl (lv_at hl 2 rfl) ?_
  refine lv_ishl hx hb dX6_leftWithout_3 ?_
  refine lv_iconst (v := (1 : Int32)) hx hb dX6_leftWithout_4 (by decide) ?_
  refine lv_isub hx hb dX6_leftWithout_5 ?_
  refine lv_iand hx hb dX6_leftWithout_6 ?_
  refine lv_istore_n (lv' := [(3, .int (p0 &&& (((1 : Int32) <<< (p2 &&& 31)) - (1 : Int32)))), (0, .int p0), (1, .int p1), (2, .int p2)]) hx hb dX6_leftWithout_7 rfl hl (by decide) rfl (fun ls hl => ?_)
  refine lv_iload_n hx hb dX6_leftWithout_8 rfl (lv_at hl 1 rfl) ?_
  refine lv_iload_n hx hb dX6_leftWithout_9 rfl (lv_at hl 3 rfl) ?_
  refine lv_iconst (v := (1 : Int32)) hx hb dX6_leftWithout_10 (by decide) ?_
  refine lv_iadd hx hb dX6_leftWithout_11 ?_
  refine lv_ishr hx hb dX6_leftWithout_12 ?_
  refine lv_iload_n hx hb dX6_leftWithout_13 rfl (lv_at hl 3 rfl) ?_
  refine lv_ishl hx hb dX6_leftWithout_14 ?_
  refine lv_istore (lv' := [(4, .int ((p0 >>> ((p2 + (1 : Int32)) &&& 31)) <<< (p2 &&& 31))), (3, .int (p0 &&& (((1 : Int32) <<< (p2 &&& 31)) - (1 : Int32)))), (0, .int p0), (1, .int p1), (2, .int p2)]) hx hb dX6_leftWithout_15 hl (by decide) rfl (fun ls hl => ?_)
  refine lv_iload_n hx hb dX6_leftWithout_17 rfl (lv_at hl 1 rfl) ?_
  refine lv_iload hx hb dX6_leftWithout_18 (lv_at hl 0 rfl) ?_
  refine lv_ior hx hb dX6_leftWithout_20 ?_
  refine lv_istore (lv' := [(5, .int ((p0 &&& (((1 : Int32) <<< (p2 &&& 31)) - (1 : Int32))) ||| ((p0 >>> ((p2 + (1 : Int32)) &&& 31)) <<< (p2 &&& 31)))), (4, .int ((p0 >>> ((p2 + (1 : Int32)) &&& 31)) <<< (p2 &&& 31))), (3, .int (p0 &&& (((1 : Int32) <<< (p2 &&& 31)) - (1 : Int32)))), (0, .int p0), (1, .int p1), (2, .int p2)]) hx hb dX6_leftWithout_21 hl (by decide) rfl (fun ls hl => ?_)
  refine lv_iconst (v := (1 : Int32)) hx hb dX6_leftWithout_23 (by decide) ?_
  refine lv_iload_n hx hb dX6_leftWithout_24 rfl (lv_at hl 4 rfl) ?_
  refine lv_iconst (v := (1 : Int32)) hx hb dX6_leftWithout_25 (by decide) ?_
  refine lv_isub hx hb dX6_leftWithout_26 ?_
  refine lv_ishl hx hb dX6_leftWithout_27 ?_
  refine lv_iconst (v := (1 : Int32)) hx hb dX6_leftWithout_28 (by decide) ?_
  refine lv_isub hx hb dX6_leftWithout_29 ?_
  refine lv_istore (lv' := [(6, .int (((1 : Int32) <<< ((p1 - (1 : Int32)) &&& 31)) - (1 : Int32))), (5, .int ((p0 &&& (((1 : Int32) <<< (p2 &&& 31)) - (1 : Int32))) ||| ((p0 >>> ((p2 + (1 : Int32)) &&& 31)) <<< (p2 &&& 31)))), (4, .int ((p0 >>> ((p2 + (1 : Int32)) &&& 31)) <<< (p2 &&& 31))), (3, .int (p0 &&& (((1 : Int32) <<< (p2 &&& 31)) - (1 : Int32)))), (0, .int p0), (1, .int p1), (2, .int p2)]) hx hb dX6_leftWithout_30 hl (by decide) rfl (fun ls hl => ?_)
  refine lv_iload hx hb dX6_leftWithout_32 (lv_at hl 1 rfl) ?_
  refine lv_iconst (v := (1 : Int32)) hx hb dX6_leftWithout_34 (by decide) ?_
  refine lv_iand hx hb dX6_leftWithout_35 ?_
  refine lv_if_eq (tgt := 47) hx hb dX6_leftWithout_36 (by decide) (fun c1 => ?_) (fun c1 => ?_)
  · have h := it_p h c1
    refine lv_iload hx hb dX6_leftWithout_47 (lv_at hl 1 rfl) ?_
    have h9 := Option.some.inj h
    have e9 : ((p0 &&& (((1 : Int32) <<< (p2 &&& 31)) - (1 : Int32))) ||| ((p0 >>> ((p2 + (1 : Int32)) &&& 31)) <<< (p2 &&& 31))) = r0 := congrArg (fun z9 => z9) h9
    rw [← e9]
    exact k_iret hx hb hr hlocks hP hS rfl dX6_leftWithout_49
  have h := it_n h c1
  refine lv_iload hx hb dX6_leftWithout_39 (lv_at hl 0 rfl) ?_
  refine lv_iload hx hb dX6_leftWithout_41 (lv_at hl 1 rfl) ?_
  refine lv_ixor hx hb dX6_leftWithout_43 ?_
  refine lv_goto (tgt := 49) hx hb dX6_leftWithout_44 (by decide) ?_
  have h9 := Option.some.inj h
  have e9 : ((((1 : Int32) <<< ((p1 - (1 : Int32)) &&& 31)) - (1 : Int32)) ^^^ ((p0 &&& (((1 : Int32) <<< (p2 &&& 31)) - (1 : Int32))) ||| ((p0 >>> ((p2 + (1 : Int32)) &&& 31)) <<< (p2 &&& 31)))) = r0 := congrArg (fun z9 => z9) h9
  rw [← e9]
  exact k_iret hx hb hr hlocks hP hS rfl dX6_leftWithout_49

/-! X6_forgetLeaf -/
set_option maxHeartbeats 4000000 in
set_option maxRecDepth 100000 in
theorem c_X6_forgetLeaf (l : Launch) (G : va_G) (cI cJ cD cH : ClassId) (sz : Nat) (p0 : Int64) (p1 : Int32) (p2 : Int32) (r0 : Int64) (hF : F_X6_forgetLeaf p0 p1 p2 = some r0) : Met l yX6_forgetLeaf wsX6_forgetLeaf ({ frames := 2, cells := 0, slots := 0, locals := 46 }) (k_pre G (k_T cI cJ cD cH) [] sz [.long p0, .int p1, .int p2]) (va_Ql (fun r (_ : Unit) => r = r0 ∧ True) (fun _ t => va_P G vwCl [] t.heap) (va_A [] sz)) 0 0 (va_A [] sz) := by
  refine Met.ofW (cc := cX6_forgetLeaf) (maxL := 9) (ret := (some .long)) (by decide) rfl ?_
  intro p e s m args below meth c s₁ B hml hv
  obtain ⟨rfl, hsz, hP, hK, hD0⟩ := hv
  have hx := B.exec
  have hb := B.bytes
  have hr := B.returns
  have hts := atoms_spec (ws := wsX6_forgetLeaf) B.pre
  have hta : ∀ w ∈ wA, w.before ([.long p0, .int p1, .int p2] : List Value).toArray s = true := hta_of hts
  have hown : s.vm.findClass RX6 = some m.cls := findClass_of_methodNamed B.named
  have hlocks := B.notSynchronized
  subst hsz
  have hD := hD0.self (sz := s.heap.size)
  generalize hAe : va_A [] s.heap.size = A at hD ⊢
  have hA : ∀ q : Nat, s.heap.size ≤ q → A q := fun q h => by rw [← hAe]; exact Or.inr h
  have hS : va_S A s.heap s.heap [] := va_S.rf
  have hl := lv_entry ([.long p0, .int p1, .int p2]) (n := 9) (Nat.le_of_ble_eq_true rfl)
  rw [lg_entry_eq]
  generalize (lg_sl ([.long p0, .int p1, .int p2]) ++ List.replicate (9 - (lg_sl ([.long p0, .int p1, .int p2])).length) Slot.unset).toArray = ls at hl ⊢
  have hl : lv_has ls 9 [(0, .long p0), (2, .int p1), (3, .int p2)] := hl
  have h := hF
  unfold F_X6_forgetLeaf at h
  refine lv_lconst (v := (0 : Int64)) hx hb dX6_forgetLeaf_0 (by decide) ?_
  refine lv_lstore (lv' := [(4, .long (0 : Int64)), (0, .long p0), (2, .int p1), (3, .int p2)]) hx hb dX6_forgetLeaf_1 hl (by decide) rfl (fun ls hl => ?_)
  refine lv_lload_n hx hb dX6_forgetLeaf_3 rfl (lv_at hl 1 rfl) ?_
  obtain ⟨x1, hx1, h⟩ := bd_e h
  try dsimp only at h
  refine k_SiU (n := 1) (As := [.long p0]) (rest := []) hx hb hml hown hts (c_X6_sizeOf l G cI cJ cD cH s.heap.size p0 x1 hx1) gX6_forgetLeaf_X6_sizeOf rfl rfl rfl (by decide +kernel) ⟨by first | exact Nat.le_of_ble_eq_true rfl | (simp only [headSpec]; omega), by first | exact Nat.le_of_ble_eq_true rfl | (simp only [headSpec]; omega)⟩ hK hP hD hS hA [] (by decide) rfl rfl rfl hl.1 (Nat.le_of_ble_eq_true rfl) dX6_forgetLeaf_4 ⟨Nat.zero_le _, Nat.zero_le _⟩ (fun hp1 H locs hP hS => ?_)
  refine lv_istore (lv' := [(6, .int x1), (4, .long (0 : Int64)), (0, .long p0), (2, .int p1), (3, .int p2)]) hx hb dX6_forgetLeaf_7 hl (by decide) rfl (fun ls hl => ?_)
  refine lv_iconst (v := (0 : Int32)) hx hb dX6_forgetLeaf_9 (by decide) ?_
  refine lv_istore (lv' := [(7, .int (0 : Int32)), (6, .int x1), (4, .long (0 : Int64)), (0, .long p0), (2, .int p1), (3, .int p2)]) hx hb dX6_forgetLeaf_10 hl (by decide) rfl (fun ls hl => ?_)
  have hK_X6_forgetLeaf_12_58 : ∀  (vK12_58_0 : Int64) (H : Heap) (locs : List Loc) (ls : Array Slot), va_P G vwCl [] H → va_D A [] → va_S A s.heap H locs → lv_has ls 9 [(4, .long vK12_58_0)] → K_X6_forgetLeaf_12_58 vK12_58_0 = some r0 → W p l e (headSpec wsX6_forgetLeaf ({ frames := 2, cells := 0, slots := 0, locals := 46 })).room s m ([.long p0, .int p1, .int p2] : List Value).toArray below meth c H locs 0 0 (MQ below (va_Ql (fun r (_ : Unit) => r = r0 ∧ True) (fun _ t => va_P G vwCl [] t.heap) A) ([.long p0, .int p1, .int p2] : List Value).toArray s 0 0 A) (F0 m 58 ls []) := by
    intro vK12_58_0 H locs ls hP hD hS hl h
    unfold K_X6_forgetLeaf_12_58 at h
    refine lv_lload hx hb dX6_forgetLeaf_58 (lv_at hl 0 rfl) ?_
    have h9 := Option.some.inj h
    have e9 : vK12_58_0 = r0 := congrArg (fun z9 => z9) h9
    rw [← e9]
    exact k_lret hx hb hr hlocks hP hS rfl dX6_forgetLeaf_60
  have hL12 : ∀ (n12 : Nat) (vL12_0 : Int64) (vL12_1 : Int32) (H : Heap) (locs : List Loc) (ls : Array Slot), va_P G vwCl [] H → va_D A [] → va_S A s.heap H locs → lv_has ls 9 [(0, .long p0), (2, .int p1), (3, .int p2), (4, .long vL12_0), (6, .int x1), (7, .int vL12_1)] → wq2 (B_X6_forgetLeaf_12 p0 p1 p2 x1 K_X6_forgetLeaf_12_58) n12 vL12_0 vL12_1 = some r0 → W p l e (headSpec wsX6_forgetLeaf ({ frames := 2, cells := 0, slots := 0, locals := 46 })).room s m ([.long p0, .int p1, .int p2] : List Value).toArray below meth c H locs 0 0 (MQ below (va_Ql (fun r (_ : Unit) => r = r0 ∧ True) (fun _ t => va_P G vwCl [] t.heap) A) ([.long p0, .int p1, .int p2] : List Value).toArray s 0 0 A) (F0 m 12 ls []) := by
    intro n12
    induction n12 with
    | zero => intro vL12_0 vL12_1 H locs ls hP hD hS hl h; exact wq2_0 h
    | succ n12 ih12 =>
      intro vL12_0 vL12_1 H locs ls hP hD hS hl h
      have h := wq2_s h
      unfold B_X6_forgetLeaf_12 at h
      refine lv_iload hx hb dX6_forgetLeaf_12 (lv_at hl 5 rfl) ?_
      refine lv_iload hx hb dX6_forgetLeaf_14 (lv_at hl 4 rfl) ?_
      refine lv_icmp_ge (tgt := 58) hx hb dX6_forgetLeaf_16 (by decide) (fun c2 => ?_) (fun c2 => ?_)
      · have h := it_p h c2
        exact hK_X6_forgetLeaf_12_58 vL12_0 _ _ _ hP hD hS (lv_sub hl [3] rfl) h
      have h := it_n h c2
      refine lv_lload_n hx hb dX6_forgetLeaf_19 rfl (lv_at hl 0 rfl) ?_
      refine lv_iload hx hb dX6_forgetLeaf_20 (lv_at hl 5 rfl) ?_
      obtain ⟨x3, hx3, h⟩ := bd_e h
      try dsimp only at h
      refine k_SiU (n := 2) (As := [.long p0, .int vL12_1]) (rest := []) hx hb hml hown hts (c_X6_nth l G cI cJ cD cH H.size p0 vL12_1 x3 hx3) gX6_forgetLeaf_X6_nth rfl rfl rfl (by decide +kernel) ⟨by first | exact Nat.le_of_ble_eq_true rfl | (simp only [headSpec]; omega), by first | exact Nat.le_of_ble_eq_true rfl | (simp only [headSpec]; omega)⟩ hK hP hD hS hA [] (by decide) rfl rfl rfl hl.1 (Nat.le_of_ble_eq_true rfl) dX6_forgetLeaf_22 ⟨Nat.zero_le _, Nat.zero_le _⟩ (fun hp3 H locs hP hS => ?_)
      refine lv_iload_n hx hb dX6_forgetLeaf_25 rfl (lv_at hl 1 rfl) ?_
      refine lv_iload_n hx hb dX6_forgetLeaf_26 rfl (lv_at hl 2 rfl) ?_
      obtain ⟨x4, hx4, h⟩ := bd_e h
      try dsimp only at h
      refine k_SiU (n := 3) (As := [.int x3, .int p1, .int p2]) (rest := []) hx hb hml hown hts (c_X6_leftWithout l G cI cJ cD cH H.size x3 p1 p2 x4 hx4) gX6_forgetLeaf_X6_leftWithout rfl rfl rfl (by decide +kernel) ⟨by first | exact Nat.le_of_ble_eq_true rfl | (simp only [headSpec]; omega), by first | exact Nat.le_of_ble_eq_true rfl | (simp only [headSpec]; omega)⟩ hK hP hD hS hA [] (by decide) rfl rfl rfl hl.1 (Nat.le_of_ble_eq_true rfl) dX6_forgetLeaf_27 ⟨Nat.zero_le _, Nat.zero_le _⟩ (fun hp4 H locs hP hS => ?_)
      refine lv_istore (lv' := [(8, .int x4), (0, .long p0), (2, .int p1), (3, .int p2), (4, .long vL12_0), (6, .int x1), (7, .int vL12_1)]) hx hb dX6_forgetLeaf_30 hl (by decide) rfl (fun ls hl => ?_)
      refine lv_iload hx hb dX6_forgetLeaf_32 (lv_at hl 0 rfl) ?_
      refine lv_iload_n hx hb dX6_forgetLeaf_34 rfl (lv_at hl 2 rfl) ?_
      refine lv_iconst (v := (1 : Int32)) hx hb dX6_forgetLeaf_35 (by decide) ?_
      refine lv_isub hx hb dX6_forgetLeaf_36 ?_
      obtain ⟨x5, hx5, h⟩ := bd_e h
      try dsimp only at h
      refine k_SiU (n := 2) (As := [.int x4, .int (p1 - (1 : Int32))]) (rest := []) hx hb hml hown hts (c_X6_isSplit l G cI cJ cD cH H.size x4 (p1 - (1 : Int32)) x5 hx5) gX6_forgetLeaf_X6_isSplit rfl rfl rfl (by decide +kernel) ⟨by first | exact Nat.le_of_ble_eq_true rfl | (simp only [headSpec]; omega), by first | exact Nat.le_of_ble_eq_true rfl | (simp only [headSpec]; omega)⟩ hK hP hD hS hA [] (by decide) rfl rfl rfl hl.1 (Nat.le_of_ble_eq_true rfl) dX6_forgetLeaf_37 ⟨Nat.zero_le _, Nat.zero_le _⟩ (fun hp5 H locs hP hS => ?_)
      refine lv_if_eq (tgt := 52) hx hb dX6_forgetLeaf_40 (by decide) (fun c6 => ?_) (fun c6 => ?_)
      · have h := it_p h c6
        refine lv_iinc (v := (vL12_1 + (1 : Int32))) (lv' := [(7, .int (vL12_1 + (1 : Int32))), (8, .int x4), (0, .long p0), (2, .int p1), (3, .int p2), (4, .long vL12_0), (6, .int x1)]) hx hb dX6_forgetLeaf_52 hl (k := 6) rfl (by first | rfl | decide) (by decide) rfl (fun ls hl => ?_)
        refine lv_goto (tgt := 12) hx hb dX6_forgetLeaf_55 (by decide) ?_
        exact ih12 vL12_0 (vL12_1 + (1 : Int32)) _ _ _ hP hD hS (lv_sub hl [2, 3, 4, 5, 6, 0] rfl) h
      have h := it_n h c6
      refine lv_lload hx hb dX6_forgetLeaf_43 (lv_at hl 4 rfl) ?_
      refine lv_iload hx hb dX6_forgetLeaf_45 (lv_at hl 0 rfl) ?_
      obtain ⟨x7, hx7, h⟩ := bd_e h
      try dsimp only at h
      refine k_SlU (n := 2) (As := [.long vL12_0, .int x4]) (rest := []) hx hb hml hown hts (c_X6_with l G cI cJ cD cH H.size vL12_0 x4 x7 hx7) gX6_forgetLeaf_X6_with rfl rfl rfl (by decide +kernel) ⟨by first | exact Nat.le_of_ble_eq_true rfl | (simp only [headSpec]; omega), by first | exact Nat.le_of_ble_eq_true rfl | (simp only [headSpec]; omega)⟩ hK hP hD hS hA [] (by decide) rfl rfl rfl hl.1 (Nat.le_of_ble_eq_true rfl) dX6_forgetLeaf_47 ⟨Nat.zero_le _, Nat.zero_le _⟩ (fun hp7 H locs hP hS => ?_)
      refine lv_lstore (lv' := [(4, .long x7), (8, .int x4), (0, .long p0), (2, .int p1), (3, .int p2), (6, .int x1), (7, .int vL12_1)]) hx hb dX6_forgetLeaf_50 hl (by decide) rfl (fun ls hl => ?_)
      refine lv_iinc (v := (vL12_1 + (1 : Int32))) (lv' := [(7, .int (vL12_1 + (1 : Int32))), (4, .long x7), (8, .int x4), (0, .long p0), (2, .int p1), (3, .int p2), (6, .int x1)]) hx hb dX6_forgetLeaf_52 hl (k := 6) rfl (by first | rfl | decide) (by decide) rfl (fun ls hl => ?_)
      refine lv_goto (tgt := 12) hx hb dX6_forgetLeaf_55 (by decide) ?_
      exact ih12 x7 (vL12_1 + (1 : Int32)) _ _ _ hP hD hS (lv_sub hl [3, 4, 5, 1, 6, 0] rfl) h
  exact hL12 FU (0 : Int64) (0 : Int32) _ _ _ hP hD hS (lv_sub hl [3, 4, 5, 2, 1, 0] rfl) h

/-! X7_add -/
set_option maxHeartbeats 4000000 in
set_option maxRecDepth 100000 in
theorem c_X7_add (l : Launch) (G : va_G) (cI cJ cD cH : ClassId) (sz : Nat) (h_t : Nat) (h_t_bytes : Nat) (t_size : Int32) (a_t_bytes : Nat → Int32) (p0 : Int32) (w0 : Nat → Int32) (w1 : Int32) (hF : F_X7_add t_size a_t_bytes p0 = some (w0, w1)) : Met l yX7_add wsX7_add ({ frames := 0, cells := 0, slots := 0, locals := 0 }) (k_pre G (k_T cI cJ cD cH) [(h_t, .inr (6, [.ref h_t_bytes, .int t_size])), (h_t_bytes, .inl (cI, 60, .inl a_t_bytes))] sz [.ref h_t, .int p0]) (va_Qv (fun (_ : Unit) => True) (fun _ t => va_P G vwCl [(h_t, .inr (6, [.ref h_t_bytes, .int w1])), (h_t_bytes, .inl (cI, 60, .inl w0))] t.heap) (va_A [(h_t, .inr (6, [.ref h_t_bytes, .int t_size])), (h_t_bytes, .inl (cI, 60, .inl a_t_bytes))] sz)) 0 0 (va_A [(h_t, .inr (6, [.ref h_t_bytes, .int t_size])), (h_t_bytes, .inl (cI, 60, .inl a_t_bytes))] sz) := by
  refine Met.ofW (cc := cX7_add) (maxL := 2) (ret := none) (by decide) rfl ?_
  intro p e s m args below meth c s₁ B hml hv
  obtain ⟨rfl, hsz, hP, hK, hD0⟩ := hv
  have hx := B.exec
  have hb := B.bytes
  have hr := B.returns
  have hts := atoms_spec (ws := wsX7_add) B.pre
  have hta : ∀ w ∈ wA, w.before ([.ref h_t, .int p0] : List Value).toArray s = true := hta_of hts
  have hown : s.vm.findClass RX7 = some m.cls := findClass_of_methodNamed B.named
  have hlocks := B.notSynchronized
  subst hsz
  have hD := hD0.self (sz := s.heap.size)
  generalize hAe : va_A [(h_t, .inr (6, [.ref h_t_bytes, .int t_size])), (h_t_bytes, .inl (cI, 60, .inl a_t_bytes))] s.heap.size = A at hD ⊢
  have hA : ∀ q : Nat, s.heap.size ≤ q → A q := fun q h => by rw [← hAe]; exact Or.inr h
  have hS : va_S A s.heap s.heap [] := va_S.rf
  have hl := lv_entry ([.ref h_t, .int p0]) (n := 2) (Nat.le_of_ble_eq_true rfl)
  rw [lg_entry_eq]
  generalize (lg_sl ([.ref h_t, .int p0]) ++ List.replicate (2 - (lg_sl ([.ref h_t, .int p0])).length) Slot.unset).toArray = ls at hl ⊢
  have hl : lv_has ls 2 [(0, .ref h_t), (1, .int p0)] := hl
  have hinX7 : ∀ w ∈ wsX70, w ∈ wsX7_add := hin_of in_X7
  have h := hF
  unfold F_X7_add at h
  refine lv_aload_n hx hb dX7_add_0 rfl (lv_at hl 0 rfl) ?_
  refine va_get (D := G) (ci := 6) (v := .int t_size) (C := RX7) (T := TX7) (N := 2) hx hb hts hinX7 hown hK hP 0 rfl rfl 1 (by decide) (hta _ mw_212) (fun _ h9 => h9) rfl dX7_add_1 ?_
  refine lv_bipush (v := (60 : Int32)) hx hb dX7_add_4 (by decide) ?_
  refine lv_icmp_ge (tgt := 29) hx hb dX7_add_6 (by decide) (fun c1 => ?_) (fun c1 => ?_)
  · have h := it_p h c1
    have h9 := Option.some.inj h
    have e9 : a_t_bytes = w0 := congrArg (fun z9 => z9.1) h9
    rw [← e9]
    have e9 : t_size = w1 := congrArg (fun z9 => z9.2) h9
    rw [← e9]
    exact k_vret hx hb hr hlocks hP hS dX7_add_29
  have h := it_n h c1
  refine lv_aload_n hx hb dX7_add_9 rfl (lv_at hl 0 rfl) ?_
  refine va_get (D := G) (ci := 6) (v := .ref h_t_bytes) (C := RX7) (T := TX7) (N := 2) hx hb hts hinX7 hown hK hP 0 rfl rfl 0 (by decide) (hta _ mw_185) (fun _ h9 => h9) rfl dX7_add_10 ?_
  refine lv_aload_n hx hb dX7_add_13 rfl (lv_at hl 0 rfl) ?_
  refine va_get (D := G) (ci := 6) (v := .int t_size) (C := RX7) (T := TX7) (N := 2) hx hb hts hinX7 hown hK hP 0 rfl rfl 1 (by decide) (hta _ mw_212) (fun _ h9 => h9) rfl dX7_add_14 ?_
  refine lv_iload_n hx hb dX7_add_17 rfl (lv_at hl 1 rfl) ?_
  obtain ⟨hn2, h⟩ := ck_e h
  refine va_iast hx hb hK hP hD hS 1 0 rfl rfl hn2 dX7_add_18 (fun H locs hP hD hS => ?_)
  have hP : va_P G vwCl [(h_t, .inr (6, [.ref h_t_bytes, .int t_size])), (h_t_bytes, .inl (cI, 60, .inl (upd a_t_bytes t_size.toNatClampNeg p0)))] H := hP
  have hD : va_D A [(h_t, .inr (6, [.ref h_t_bytes, .int t_size])), (h_t_bytes, .inl (cI, 60, .inl (upd a_t_bytes t_size.toNatClampNeg p0)))] := hD
  refine lv_aload_n hx hb dX7_add_19 rfl (lv_at hl 0 rfl) ?_
  refine lv_dup hx hb dX7_add_20 rfl ?_
  refine va_get (D := G) (ci := 6) (v := .int t_size) (C := RX7) (T := TX7) (N := 2) hx hb hts hinX7 hown hK hP 0 rfl rfl 1 (by decide) (hta _ mw_212) (fun _ h9 => h9) rfl dX7_add_21 ?_
  refine lv_iconst (v := (1 : Int32)) hx hb dX7_add_24 (by decide) ?_
  refine lv_iadd hx hb dX7_add_25 ?_
  refine va_put (D := G) (ci := 6) (v := .int (t_size + (1 : Int32))) (ty := .int) (C := RX7) (T := TX7) (N := 2) hx hb hts hinX7 tyX7 tyX7_ok nmX7 hown hK hP hD hS 0 rfl rfl 1 (by decide) (hta _ mw_212) (fun _ h9 => h9) rfl (by decide +kernel) rfl rfl (Nat.le_of_ble_eq_true rfl) dX7_add_26 (fun H locs hP hD hS => ?_)
  have hP : va_P G vwCl [(h_t, .inr (6, [.ref h_t_bytes, .int (t_size + (1 : Int32))])), (h_t_bytes, .inl (cI, 60, .inl (upd a_t_bytes t_size.toNatClampNeg p0)))] H := hP
  have hD : va_D A [(h_t, .inr (6, [.ref h_t_bytes, .int (t_size + (1 : Int32))])), (h_t_bytes, .inl (cI, 60, .inl (upd a_t_bytes t_size.toNatClampNeg p0)))] := hD
  have h9 := Option.some.inj h
  have e9 : (upd a_t_bytes t_size.toNatClampNeg p0) = w0 := congrArg (fun z9 => z9.1) h9
  rw [← e9]
  have e9 : (t_size + (1 : Int32)) = w1 := congrArg (fun z9 => z9.2) h9
  rw [← e9]
  exact k_vret hx hb hr hlocks hP hS dX7_add_29

/-! X8_genus -/
set_option maxHeartbeats 40000000 in
set_option maxRecDepth 100000 in
theorem c_X8_genus (l : Launch) (G : va_G) (cI cJ cD cH : ClassId) (sz : Nat) (h_t : Nat) (h_t_desk : Nat) (h_t_deeds : Nat) (h_t_deeds_desks : Nat) (h_t_desk_powers : Nat) (h_t_imageDesk : Nat) (h_t_numbers : Nat) (h_t_tape : Nat) (h_t_reader : Nat) (h_t_speller : Nat) (h_t_holders : Nat) (d_t_deeds_desks : Nat → Nat) (q_t_deeds_desks : Nat → Nat) (a_t_deeds_desks : Nat → Nat → Int32) (t_deeds_desks_genus : Nat → Int32) (t_deeds_desks_size : Nat → Int32) (t_deeds_desks_limit : Nat → Int32) (t_deeds_desks_tree : Nat → Int64) (t_imageKept : Int32) (t_desk_genus : Int32) (t_desk_size : Int32) (t_desk_limit : Int32) (t_desk_tree : Int64) (t_deeds_now : Int32) (t_deeds_last : Int32) (a_t_desk_powers : Nat → Int32) (p0 : Int32) (r0 : Int32) (w0 : Int32) (w1 : Int32) (w2 : Int32) (w3 : Nat → Nat → Int32) (w4 : Nat → Nat) (w5 : Nat → Int32) (w6 : Nat → Int32) (w7 : Nat → Nat) (w8 : Nat → Int32) (w9 : Nat → Int64) (hF : F_X8_genus d_t_deeds_desks q_t_deeds_desks a_t_deeds_desks t_deeds_desks_genus t_deeds_desks_size t_deeds_desks_limit t_deeds_desks_tree t_desk_genus t_desk_size t_desk_limit t_desk_tree t_deeds_now t_deeds_last a_t_desk_powers p0 = some (r0, w0, w1, w2, w3, w4, w5, w6, w7, w8, w9)) : Met l yX8_genus wsX8_genus ({ frames := 4, cells := 0, slots := 0, locals := 86 }) (k_pre G (k_T cI cJ cD cH) [(h_t, .inr (7, [.ref h_t_desk, .ref h_t_imageDesk, .ref h_t_deeds, .ref h_t_numbers, .ref h_t_tape, .ref h_t_reader, .ref h_t_speller, .ref h_t_holders, .int t_imageKept])), (h_t_desk, .inr (1, [.int t_desk_genus, .int t_desk_size, .ref h_t_desk_powers, .int t_desk_limit, .long t_desk_tree])), (h_t_deeds, .inr (0, [.ref h_t_deeds_desks, .int t_deeds_now, .int t_deeds_last])), (h_t_deeds_desks, .inl (cD, 9, .inr (.inr (.inr (.inr (fun i => some (d_t_deeds_desks i))))))), ((d_t_deeds_desks 0), .inr (1, [.int (t_deeds_desks_genus 0), .int (t_deeds_desks_size 0), .ref (q_t_deeds_desks 0), .int (t_deeds_desks_limit 0), .long (t_deeds_desks_tree 0)])), ((q_t_deeds_desks 0), .inl (cI, 8, .inl (a_t_deeds_desks 0))), ((d_t_deeds_desks 1), .inr (1, [.int (t_deeds_desks_genus 1), .int (t_deeds_desks_size 1), .ref (q_t_deeds_desks 1), .int (t_deeds_desks_limit 1), .long (t_deeds_desks_tree 1)])), ((q_t_deeds_desks 1), .inl (cI, 8, .inl (a_t_deeds_desks 1))), ((d_t_deeds_desks 2), .inr (1, [.int (t_deeds_desks_genus 2), .int (t_deeds_desks_size 2), .ref (q_t_deeds_desks 2), .int (t_deeds_desks_limit 2), .long (t_deeds_desks_tree 2)])), ((q_t_deeds_desks 2), .inl (cI, 8, .inl (a_t_deeds_desks 2))), ((d_t_deeds_desks 3), .inr (1, [.int (t_deeds_desks_genus 3), .int (t_deeds_desks_size 3), .ref (q_t_deeds_desks 3), .int (t_deeds_desks_limit 3), .long (t_deeds_desks_tree 3)])), ((q_t_deeds_desks 3), .inl (cI, 8, .inl (a_t_deeds_desks 3))), ((d_t_deeds_desks 4), .inr (1, [.int (t_deeds_desks_genus 4), .int (t_deeds_desks_size 4), .ref (q_t_deeds_desks 4), .int (t_deeds_desks_limit 4), .long (t_deeds_desks_tree 4)])), ((q_t_deeds_desks 4), .inl (cI, 8, .inl (a_t_deeds_desks 4))), ((d_t_deeds_desks 5), .inr (1, [.int (t_deeds_desks_genus 5), .int (t_deeds_desks_size 5), .ref (q_t_deeds_desks 5), .int (t_deeds_desks_limit 5), .long (t_deeds_desks_tree 5)])), ((q_t_deeds_desks 5), .inl (cI, 8, .inl (a_t_deeds_desks 5))), ((d_t_deeds_desks 6), .inr (1, [.int (t_deeds_desks_genus 6), .int (t_deeds_desks_size 6), .ref (q_t_deeds_desks 6), .int (t_deeds_desks_limit 6), .long (t_deeds_desks_tree 6)])), ((q_t_deeds_desks 6), .inl (cI, 8, .inl (a_t_deeds_desks 6))), ((d_t_deeds_desks 7), .inr (1, [.int (t_deeds_desks_genus 7), .int (t_deeds_desks_size 7), .ref (q_t_deeds_desks 7), .int (t_deeds_desks_limit 7), .long (t_deeds_desks_tree 7)])), ((q_t_deeds_desks 7), .inl (cI, 8, .inl (a_t_deeds_desks 7))), ((d_t_deeds_desks 8), .inr (1, [.int (t_deeds_desks_genus 8), .int (t_deeds_desks_size 8), .ref (q_t_deeds_desks 8), .int (t_deeds_desks_limit 8), .long (t_deeds_desks_tree 8)])), ((q_t_deeds_desks 8), .inl (cI, 8, .inl (a_t_deeds_desks 8))), (h_t_desk_powers, .inl (cI, 8, .inl a_t_desk_powers))] sz [.ref h_t, .int p0]) (va_Qi (fun r (_ : Unit) => r = r0 ∧ True) (fun _ t => va_P G vwCl [(h_t, .inr (7, [.ref h_t_desk, .ref h_t_imageDesk, .ref h_t_deeds, .ref h_t_numbers, .ref h_t_tape, .ref h_t_reader, .ref h_t_speller, .ref h_t_holders, .int t_imageKept])), (h_t_desk, .inr (1, [.int w0, .int t_desk_size, .ref h_t_desk_powers, .int t_desk_limit, .long t_desk_tree])), (h_t_deeds, .inr (0, [.ref h_t_deeds_desks, .int w1, .int w2])), (h_t_deeds_desks, .inl (cD, 9, .inr (.inr (.inr (.inr (fun i => some (w4 i))))))), ((w4 0), .inr (1, [.int (w5 0), .int (w8 0), .ref (w7 0), .int (w6 0), .long (w9 0)])), ((w7 0), .inl (cI, 8, .inl (w3 0))), ((w4 1), .inr (1, [.int (w5 1), .int (w8 1), .ref (w7 1), .int (w6 1), .long (w9 1)])), ((w7 1), .inl (cI, 8, .inl (w3 1))), ((w4 2), .inr (1, [.int (w5 2), .int (w8 2), .ref (w7 2), .int (w6 2), .long (w9 2)])), ((w7 2), .inl (cI, 8, .inl (w3 2))), ((w4 3), .inr (1, [.int (w5 3), .int (w8 3), .ref (w7 3), .int (w6 3), .long (w9 3)])), ((w7 3), .inl (cI, 8, .inl (w3 3))), ((w4 4), .inr (1, [.int (w5 4), .int (w8 4), .ref (w7 4), .int (w6 4), .long (w9 4)])), ((w7 4), .inl (cI, 8, .inl (w3 4))), ((w4 5), .inr (1, [.int (w5 5), .int (w8 5), .ref (w7 5), .int (w6 5), .long (w9 5)])), ((w7 5), .inl (cI, 8, .inl (w3 5))), ((w4 6), .inr (1, [.int (w5 6), .int (w8 6), .ref (w7 6), .int (w6 6), .long (w9 6)])), ((w7 6), .inl (cI, 8, .inl (w3 6))), ((w4 7), .inr (1, [.int (w5 7), .int (w8 7), .ref (w7 7), .int (w6 7), .long (w9 7)])), ((w7 7), .inl (cI, 8, .inl (w3 7))), ((w4 8), .inr (1, [.int (w5 8), .int (w8 8), .ref (w7 8), .int (w6 8), .long (w9 8)])), ((w7 8), .inl (cI, 8, .inl (w3 8))), (h_t_desk_powers, .inl (cI, 8, .inl a_t_desk_powers))] t.heap ∧ va_D (va_A [(h_t, .inr (7, [.ref h_t_desk, .ref h_t_imageDesk, .ref h_t_deeds, .ref h_t_numbers, .ref h_t_tape, .ref h_t_reader, .ref h_t_speller, .ref h_t_holders, .int t_imageKept])), (h_t_desk, .inr (1, [.int t_desk_genus, .int t_desk_size, .ref h_t_desk_powers, .int t_desk_limit, .long t_desk_tree])), (h_t_deeds, .inr (0, [.ref h_t_deeds_desks, .int t_deeds_now, .int t_deeds_last])), (h_t_deeds_desks, .inl (cD, 9, .inr (.inr (.inr (.inr (fun i => some (d_t_deeds_desks i))))))), ((d_t_deeds_desks 0), .inr (1, [.int (t_deeds_desks_genus 0), .int (t_deeds_desks_size 0), .ref (q_t_deeds_desks 0), .int (t_deeds_desks_limit 0), .long (t_deeds_desks_tree 0)])), ((q_t_deeds_desks 0), .inl (cI, 8, .inl (a_t_deeds_desks 0))), ((d_t_deeds_desks 1), .inr (1, [.int (t_deeds_desks_genus 1), .int (t_deeds_desks_size 1), .ref (q_t_deeds_desks 1), .int (t_deeds_desks_limit 1), .long (t_deeds_desks_tree 1)])), ((q_t_deeds_desks 1), .inl (cI, 8, .inl (a_t_deeds_desks 1))), ((d_t_deeds_desks 2), .inr (1, [.int (t_deeds_desks_genus 2), .int (t_deeds_desks_size 2), .ref (q_t_deeds_desks 2), .int (t_deeds_desks_limit 2), .long (t_deeds_desks_tree 2)])), ((q_t_deeds_desks 2), .inl (cI, 8, .inl (a_t_deeds_desks 2))), ((d_t_deeds_desks 3), .inr (1, [.int (t_deeds_desks_genus 3), .int (t_deeds_desks_size 3), .ref (q_t_deeds_desks 3), .int (t_deeds_desks_limit 3), .long (t_deeds_desks_tree 3)])), ((q_t_deeds_desks 3), .inl (cI, 8, .inl (a_t_deeds_desks 3))), ((d_t_deeds_desks 4), .inr (1, [.int (t_deeds_desks_genus 4), .int (t_deeds_desks_size 4), .ref (q_t_deeds_desks 4), .int (t_deeds_desks_limit 4), .long (t_deeds_desks_tree 4)])), ((q_t_deeds_desks 4), .inl (cI, 8, .inl (a_t_deeds_desks 4))), ((d_t_deeds_desks 5), .inr (1, [.int (t_deeds_desks_genus 5), .int (t_deeds_desks_size 5), .ref (q_t_deeds_desks 5), .int (t_deeds_desks_limit 5), .long (t_deeds_desks_tree 5)])), ((q_t_deeds_desks 5), .inl (cI, 8, .inl (a_t_deeds_desks 5))), ((d_t_deeds_desks 6), .inr (1, [.int (t_deeds_desks_genus 6), .int (t_deeds_desks_size 6), .ref (q_t_deeds_desks 6), .int (t_deeds_desks_limit 6), .long (t_deeds_desks_tree 6)])), ((q_t_deeds_desks 6), .inl (cI, 8, .inl (a_t_deeds_desks 6))), ((d_t_deeds_desks 7), .inr (1, [.int (t_deeds_desks_genus 7), .int (t_deeds_desks_size 7), .ref (q_t_deeds_desks 7), .int (t_deeds_desks_limit 7), .long (t_deeds_desks_tree 7)])), ((q_t_deeds_desks 7), .inl (cI, 8, .inl (a_t_deeds_desks 7))), ((d_t_deeds_desks 8), .inr (1, [.int (t_deeds_desks_genus 8), .int (t_deeds_desks_size 8), .ref (q_t_deeds_desks 8), .int (t_deeds_desks_limit 8), .long (t_deeds_desks_tree 8)])), ((q_t_deeds_desks 8), .inl (cI, 8, .inl (a_t_deeds_desks 8))), (h_t_desk_powers, .inl (cI, 8, .inl a_t_desk_powers))] sz) [(h_t, .inr (7, [.ref h_t_desk, .ref h_t_imageDesk, .ref h_t_deeds, .ref h_t_numbers, .ref h_t_tape, .ref h_t_reader, .ref h_t_speller, .ref h_t_holders, .int t_imageKept])), (h_t_desk, .inr (1, [.int w0, .int t_desk_size, .ref h_t_desk_powers, .int t_desk_limit, .long t_desk_tree])), (h_t_deeds, .inr (0, [.ref h_t_deeds_desks, .int w1, .int w2])), (h_t_deeds_desks, .inl (cD, 9, .inr (.inr (.inr (.inr (fun i => some (w4 i))))))), ((w4 0), .inr (1, [.int (w5 0), .int (w8 0), .ref (w7 0), .int (w6 0), .long (w9 0)])), ((w7 0), .inl (cI, 8, .inl (w3 0))), ((w4 1), .inr (1, [.int (w5 1), .int (w8 1), .ref (w7 1), .int (w6 1), .long (w9 1)])), ((w7 1), .inl (cI, 8, .inl (w3 1))), ((w4 2), .inr (1, [.int (w5 2), .int (w8 2), .ref (w7 2), .int (w6 2), .long (w9 2)])), ((w7 2), .inl (cI, 8, .inl (w3 2))), ((w4 3), .inr (1, [.int (w5 3), .int (w8 3), .ref (w7 3), .int (w6 3), .long (w9 3)])), ((w7 3), .inl (cI, 8, .inl (w3 3))), ((w4 4), .inr (1, [.int (w5 4), .int (w8 4), .ref (w7 4), .int (w6 4), .long (w9 4)])), ((w7 4), .inl (cI, 8, .inl (w3 4))), ((w4 5), .inr (1, [.int (w5 5), .int (w8 5), .ref (w7 5), .int (w6 5), .long (w9 5)])), ((w7 5), .inl (cI, 8, .inl (w3 5))), ((w4 6), .inr (1, [.int (w5 6), .int (w8 6), .ref (w7 6), .int (w6 6), .long (w9 6)])), ((w7 6), .inl (cI, 8, .inl (w3 6))), ((w4 7), .inr (1, [.int (w5 7), .int (w8 7), .ref (w7 7), .int (w6 7), .long (w9 7)])), ((w7 7), .inl (cI, 8, .inl (w3 7))), ((w4 8), .inr (1, [.int (w5 8), .int (w8 8), .ref (w7 8), .int (w6 8), .long (w9 8)])), ((w7 8), .inl (cI, 8, .inl (w3 8))), (h_t_desk_powers, .inl (cI, 8, .inl a_t_desk_powers))]) (va_A [(h_t, .inr (7, [.ref h_t_desk, .ref h_t_imageDesk, .ref h_t_deeds, .ref h_t_numbers, .ref h_t_tape, .ref h_t_reader, .ref h_t_speller, .ref h_t_holders, .int t_imageKept])), (h_t_desk, .inr (1, [.int t_desk_genus, .int t_desk_size, .ref h_t_desk_powers, .int t_desk_limit, .long t_desk_tree])), (h_t_deeds, .inr (0, [.ref h_t_deeds_desks, .int t_deeds_now, .int t_deeds_last])), (h_t_deeds_desks, .inl (cD, 9, .inr (.inr (.inr (.inr (fun i => some (d_t_deeds_desks i))))))), ((d_t_deeds_desks 0), .inr (1, [.int (t_deeds_desks_genus 0), .int (t_deeds_desks_size 0), .ref (q_t_deeds_desks 0), .int (t_deeds_desks_limit 0), .long (t_deeds_desks_tree 0)])), ((q_t_deeds_desks 0), .inl (cI, 8, .inl (a_t_deeds_desks 0))), ((d_t_deeds_desks 1), .inr (1, [.int (t_deeds_desks_genus 1), .int (t_deeds_desks_size 1), .ref (q_t_deeds_desks 1), .int (t_deeds_desks_limit 1), .long (t_deeds_desks_tree 1)])), ((q_t_deeds_desks 1), .inl (cI, 8, .inl (a_t_deeds_desks 1))), ((d_t_deeds_desks 2), .inr (1, [.int (t_deeds_desks_genus 2), .int (t_deeds_desks_size 2), .ref (q_t_deeds_desks 2), .int (t_deeds_desks_limit 2), .long (t_deeds_desks_tree 2)])), ((q_t_deeds_desks 2), .inl (cI, 8, .inl (a_t_deeds_desks 2))), ((d_t_deeds_desks 3), .inr (1, [.int (t_deeds_desks_genus 3), .int (t_deeds_desks_size 3), .ref (q_t_deeds_desks 3), .int (t_deeds_desks_limit 3), .long (t_deeds_desks_tree 3)])), ((q_t_deeds_desks 3), .inl (cI, 8, .inl (a_t_deeds_desks 3))), ((d_t_deeds_desks 4), .inr (1, [.int (t_deeds_desks_genus 4), .int (t_deeds_desks_size 4), .ref (q_t_deeds_desks 4), .int (t_deeds_desks_limit 4), .long (t_deeds_desks_tree 4)])), ((q_t_deeds_desks 4), .inl (cI, 8, .inl (a_t_deeds_desks 4))), ((d_t_deeds_desks 5), .inr (1, [.int (t_deeds_desks_genus 5), .int (t_deeds_desks_size 5), .ref (q_t_deeds_desks 5), .int (t_deeds_desks_limit 5), .long (t_deeds_desks_tree 5)])), ((q_t_deeds_desks 5), .inl (cI, 8, .inl (a_t_deeds_desks 5))), ((d_t_deeds_desks 6), .inr (1, [.int (t_deeds_desks_genus 6), .int (t_deeds_desks_size 6), .ref (q_t_deeds_desks 6), .int (t_deeds_desks_limit 6), .long (t_deeds_desks_tree 6)])), ((q_t_deeds_desks 6), .inl (cI, 8, .inl (a_t_deeds_desks 6))), ((d_t_deeds_desks 7), .inr (1, [.int (t_deeds_desks_genus 7), .int (t_deeds_desks_size 7), .ref (q_t_deeds_desks 7), .int (t_deeds_desks_limit 7), .long (t_deeds_desks_tree 7)])), ((q_t_deeds_desks 7), .inl (cI, 8, .inl (a_t_deeds_desks 7))), ((d_t_deeds_desks 8), .inr (1, [.int (t_deeds_desks_genus 8), .int (t_deeds_desks_size 8), .ref (q_t_deeds_desks 8), .int (t_deeds_desks_limit 8), .long (t_deeds_desks_tree 8)])), ((q_t_deeds_desks 8), .inl (cI, 8, .inl (a_t_deeds_desks 8))), (h_t_desk_powers, .inl (cI, 8, .inl a_t_desk_powers))] sz)) 0 0 (va_A [(h_t, .inr (7, [.ref h_t_desk, .ref h_t_imageDesk, .ref h_t_deeds, .ref h_t_numbers, .ref h_t_tape, .ref h_t_reader, .ref h_t_speller, .ref h_t_holders, .int t_imageKept])), (h_t_desk, .inr (1, [.int t_desk_genus, .int t_desk_size, .ref h_t_desk_powers, .int t_desk_limit, .long t_desk_tree])), (h_t_deeds, .inr (0, [.ref h_t_deeds_desks, .int t_deeds_now, .int t_deeds_last])), (h_t_deeds_desks, .inl (cD, 9, .inr (.inr (.inr (.inr (fun i => some (d_t_deeds_desks i))))))), ((d_t_deeds_desks 0), .inr (1, [.int (t_deeds_desks_genus 0), .int (t_deeds_desks_size 0), .ref (q_t_deeds_desks 0), .int (t_deeds_desks_limit 0), .long (t_deeds_desks_tree 0)])), ((q_t_deeds_desks 0), .inl (cI, 8, .inl (a_t_deeds_desks 0))), ((d_t_deeds_desks 1), .inr (1, [.int (t_deeds_desks_genus 1), .int (t_deeds_desks_size 1), .ref (q_t_deeds_desks 1), .int (t_deeds_desks_limit 1), .long (t_deeds_desks_tree 1)])), ((q_t_deeds_desks 1), .inl (cI, 8, .inl (a_t_deeds_desks 1))), ((d_t_deeds_desks 2), .inr (1, [.int (t_deeds_desks_genus 2), .int (t_deeds_desks_size 2), .ref (q_t_deeds_desks 2), .int (t_deeds_desks_limit 2), .long (t_deeds_desks_tree 2)])), ((q_t_deeds_desks 2), .inl (cI, 8, .inl (a_t_deeds_desks 2))), ((d_t_deeds_desks 3), .inr (1, [.int (t_deeds_desks_genus 3), .int (t_deeds_desks_size 3), .ref (q_t_deeds_desks 3), .int (t_deeds_desks_limit 3), .long (t_deeds_desks_tree 3)])), ((q_t_deeds_desks 3), .inl (cI, 8, .inl (a_t_deeds_desks 3))), ((d_t_deeds_desks 4), .inr (1, [.int (t_deeds_desks_genus 4), .int (t_deeds_desks_size 4), .ref (q_t_deeds_desks 4), .int (t_deeds_desks_limit 4), .long (t_deeds_desks_tree 4)])), ((q_t_deeds_desks 4), .inl (cI, 8, .inl (a_t_deeds_desks 4))), ((d_t_deeds_desks 5), .inr (1, [.int (t_deeds_desks_genus 5), .int (t_deeds_desks_size 5), .ref (q_t_deeds_desks 5), .int (t_deeds_desks_limit 5), .long (t_deeds_desks_tree 5)])), ((q_t_deeds_desks 5), .inl (cI, 8, .inl (a_t_deeds_desks 5))), ((d_t_deeds_desks 6), .inr (1, [.int (t_deeds_desks_genus 6), .int (t_deeds_desks_size 6), .ref (q_t_deeds_desks 6), .int (t_deeds_desks_limit 6), .long (t_deeds_desks_tree 6)])), ((q_t_deeds_desks 6), .inl (cI, 8, .inl (a_t_deeds_desks 6))), ((d_t_deeds_desks 7), .inr (1, [.int (t_deeds_desks_genus 7), .int (t_deeds_desks_size 7), .ref (q_t_deeds_desks 7), .int (t_deeds_desks_limit 7), .long (t_deeds_desks_tree 7)])), ((q_t_deeds_desks 7), .inl (cI, 8, .inl (a_t_deeds_desks 7))), ((d_t_deeds_desks 8), .inr (1, [.int (t_deeds_desks_genus 8), .int (t_deeds_desks_size 8), .ref (q_t_deeds_desks 8), .int (t_deeds_desks_limit 8), .long (t_deeds_desks_tree 8)])), ((q_t_deeds_desks 8), .inl (cI, 8, .inl (a_t_deeds_desks 8))), (h_t_desk_powers, .inl (cI, 8, .inl a_t_desk_powers))] sz) := by
  refine Met.ofW (cc := cX8_genus) (maxL := 3) (ret := (some .int)) (by decide) rfl ?_
  intro p e s m args below meth c s₁ B hml hv
  obtain ⟨rfl, hsz, hP, hK, hD0⟩ := hv
  have hx := B.exec
  have hb := B.bytes
  have hr := B.returns
  have hts := atoms_spec (ws := wsX8_genus) B.pre
  have hta : ∀ w ∈ wA, w.before ([.ref h_t, .int p0] : List Value).toArray s = true := hta_of hts
  have hown : s.vm.findClass RX8 = some m.cls := findClass_of_methodNamed B.named
  have hlocks := B.notSynchronized
  subst hsz
  have hD := hD0.self (sz := s.heap.size)
  generalize hAe : va_A [(h_t, .inr (7, [.ref h_t_desk, .ref h_t_imageDesk, .ref h_t_deeds, .ref h_t_numbers, .ref h_t_tape, .ref h_t_reader, .ref h_t_speller, .ref h_t_holders, .int t_imageKept])), (h_t_desk, .inr (1, [.int t_desk_genus, .int t_desk_size, .ref h_t_desk_powers, .int t_desk_limit, .long t_desk_tree])), (h_t_deeds, .inr (0, [.ref h_t_deeds_desks, .int t_deeds_now, .int t_deeds_last])), (h_t_deeds_desks, .inl (cD, 9, .inr (.inr (.inr (.inr (fun i => some (d_t_deeds_desks i))))))), ((d_t_deeds_desks 0), .inr (1, [.int (t_deeds_desks_genus 0), .int (t_deeds_desks_size 0), .ref (q_t_deeds_desks 0), .int (t_deeds_desks_limit 0), .long (t_deeds_desks_tree 0)])), ((q_t_deeds_desks 0), .inl (cI, 8, .inl (a_t_deeds_desks 0))), ((d_t_deeds_desks 1), .inr (1, [.int (t_deeds_desks_genus 1), .int (t_deeds_desks_size 1), .ref (q_t_deeds_desks 1), .int (t_deeds_desks_limit 1), .long (t_deeds_desks_tree 1)])), ((q_t_deeds_desks 1), .inl (cI, 8, .inl (a_t_deeds_desks 1))), ((d_t_deeds_desks 2), .inr (1, [.int (t_deeds_desks_genus 2), .int (t_deeds_desks_size 2), .ref (q_t_deeds_desks 2), .int (t_deeds_desks_limit 2), .long (t_deeds_desks_tree 2)])), ((q_t_deeds_desks 2), .inl (cI, 8, .inl (a_t_deeds_desks 2))), ((d_t_deeds_desks 3), .inr (1, [.int (t_deeds_desks_genus 3), .int (t_deeds_desks_size 3), .ref (q_t_deeds_desks 3), .int (t_deeds_desks_limit 3), .long (t_deeds_desks_tree 3)])), ((q_t_deeds_desks 3), .inl (cI, 8, .inl (a_t_deeds_desks 3))), ((d_t_deeds_desks 4), .inr (1, [.int (t_deeds_desks_genus 4), .int (t_deeds_desks_size 4), .ref (q_t_deeds_desks 4), .int (t_deeds_desks_limit 4), .long (t_deeds_desks_tree 4)])), ((q_t_deeds_desks 4), .inl (cI, 8, .inl (a_t_deeds_desks 4))), ((d_t_deeds_desks 5), .inr (1, [.int (t_deeds_desks_genus 5), .int (t_deeds_desks_size 5), .ref (q_t_deeds_desks 5), .int (t_deeds_desks_limit 5), .long (t_deeds_desks_tree 5)])), ((q_t_deeds_desks 5), .inl (cI, 8, .inl (a_t_deeds_desks 5))), ((d_t_deeds_desks 6), .inr (1, [.int (t_deeds_desks_genus 6), .int (t_deeds_desks_size 6), .ref (q_t_deeds_desks 6), .int (t_deeds_desks_limit 6), .long (t_deeds_desks_tree 6)])), ((q_t_deeds_desks 6), .inl (cI, 8, .inl (a_t_deeds_desks 6))), ((d_t_deeds_desks 7), .inr (1, [.int (t_deeds_desks_genus 7), .int (t_deeds_desks_size 7), .ref (q_t_deeds_desks 7), .int (t_deeds_desks_limit 7), .long (t_deeds_desks_tree 7)])), ((q_t_deeds_desks 7), .inl (cI, 8, .inl (a_t_deeds_desks 7))), ((d_t_deeds_desks 8), .inr (1, [.int (t_deeds_desks_genus 8), .int (t_deeds_desks_size 8), .ref (q_t_deeds_desks 8), .int (t_deeds_desks_limit 8), .long (t_deeds_desks_tree 8)])), ((q_t_deeds_desks 8), .inl (cI, 8, .inl (a_t_deeds_desks 8))), (h_t_desk_powers, .inl (cI, 8, .inl a_t_desk_powers))] s.heap.size = A at hD ⊢
  have hA : ∀ q : Nat, s.heap.size ≤ q → A q := fun q h => by rw [← hAe]; exact Or.inr h
  have hS : va_S A s.heap s.heap [] := va_S.rf
  have hl := lv_entry ([.ref h_t, .int p0]) (n := 3) (Nat.le_of_ble_eq_true rfl)
  rw [lg_entry_eq]
  generalize (lg_sl ([.ref h_t, .int p0]) ++ List.replicate (3 - (lg_sl ([.ref h_t, .int p0])).length) Slot.unset).toArray = ls at hl ⊢
  have hl : lv_has ls 3 [(0, .ref h_t), (1, .int p0)] := hl
  have hinX1 : ∀ w ∈ wsX10, w ∈ wsX8_genus := hin_of in_X1
  have hinX8 : ∀ w ∈ wsX80, w ∈ wsX8_genus := hin_of in_X8
  have h := hF
  unfold F_X8_genus at h
  refine lv_iload_n hx hb dX8_genus_0 rfl (lv_at hl 1 rfl) ?_
  refine lv_if_lt (tgt := 9) hx hb dX8_genus_1 (by decide) (fun c1 => ?_) (fun c1 => ?_)
  · have h := it_p h c1
    refine lv_iconst (v := (-1 : Int32)) hx hb dX8_genus_9 (by decide) ?_
    have h9 := Option.some.inj h
    have e9 : (-1 : Int32) = r0 := congrArg (fun z9 => z9.1) h9
    rw [← e9]
    have e9 : t_desk_genus = w0 := congrArg (fun z9 => z9.2.1) h9
    rw [← e9]
    have e9 : t_deeds_now = w1 := congrArg (fun z9 => z9.2.2.1) h9
    rw [← e9]
    have e9 : t_deeds_last = w2 := congrArg (fun z9 => z9.2.2.2.1) h9
    rw [← e9]
    have e9 : a_t_deeds_desks = w3 := congrArg (fun z9 => z9.2.2.2.2.1) h9
    rw [← e9]
    have e9 : d_t_deeds_desks = w4 := congrArg (fun z9 => z9.2.2.2.2.2.1) h9
    rw [← e9]
    have e9 : t_deeds_desks_genus = w5 := congrArg (fun z9 => z9.2.2.2.2.2.2.1) h9
    rw [← e9]
    have e9 : t_deeds_desks_limit = w6 := congrArg (fun z9 => z9.2.2.2.2.2.2.2.1) h9
    rw [← e9]
    have e9 : q_t_deeds_desks = w7 := congrArg (fun z9 => z9.2.2.2.2.2.2.2.2.1) h9
    rw [← e9]
    have e9 : t_deeds_desks_size = w8 := congrArg (fun z9 => z9.2.2.2.2.2.2.2.2.2.1) h9
    rw [← e9]
    have e9 : t_deeds_desks_tree = w9 := congrArg (fun z9 => z9.2.2.2.2.2.2.2.2.2.2) h9
    rw [← e9]
    exact k_iretP hx hb hr hlocks hD hP hS rfl dX8_genus_10
  have h := it_n h c1
  refine lv_iload_n hx hb dX8_genus_4 rfl (lv_at hl 1 rfl) ?_
  refine lv_iconst (v := (2 : Int32)) hx hb dX8_genus_5 (by decide) ?_
  refine lv_icmp_le (tgt := 11) hx hb dX8_genus_6 (by decide) (fun c2 => ?_) (fun c2 => ?_)
  rotate_left
  · have h := it_n h c2
    refine lv_iconst (v := (-1 : Int32)) hx hb dX8_genus_9 (by decide) ?_
    have h9 := Option.some.inj h
    have e9 : (-1 : Int32) = r0 := congrArg (fun z9 => z9.1) h9
    rw [← e9]
    have e9 : t_desk_genus = w0 := congrArg (fun z9 => z9.2.1) h9
    rw [← e9]
    have e9 : t_deeds_now = w1 := congrArg (fun z9 => z9.2.2.1) h9
    rw [← e9]
    have e9 : t_deeds_last = w2 := congrArg (fun z9 => z9.2.2.2.1) h9
    rw [← e9]
    have e9 : a_t_deeds_desks = w3 := congrArg (fun z9 => z9.2.2.2.2.1) h9
    rw [← e9]
    have e9 : d_t_deeds_desks = w4 := congrArg (fun z9 => z9.2.2.2.2.2.1) h9
    rw [← e9]
    have e9 : t_deeds_desks_genus = w5 := congrArg (fun z9 => z9.2.2.2.2.2.2.1) h9
    rw [← e9]
    have e9 : t_deeds_desks_limit = w6 := congrArg (fun z9 => z9.2.2.2.2.2.2.2.1) h9
    rw [← e9]
    have e9 : q_t_deeds_desks = w7 := congrArg (fun z9 => z9.2.2.2.2.2.2.2.2.1) h9
    rw [← e9]
    have e9 : t_deeds_desks_size = w8 := congrArg (fun z9 => z9.2.2.2.2.2.2.2.2.2.1) h9
    rw [← e9]
    have e9 : t_deeds_desks_tree = w9 := congrArg (fun z9 => z9.2.2.2.2.2.2.2.2.2.2) h9
    rw [← e9]
    exact k_iretP hx hb hr hlocks hD hP hS rfl dX8_genus_10
  have h := it_p h c2
  refine lv_aload_n hx hb dX8_genus_11 rfl (lv_at hl 0 rfl) ?_
  refine va_get (D := G) (ci := 7) (v := .ref h_t_desk) (C := RX8) (T := TX8) (N := 9) hx hb hts hinX8 hown hK hP 0 rfl rfl 0 (by decide) (hta _ mw_358) (fun _ h9 => h9) rfl dX8_genus_12 ?_
  refine va_get (D := G) (ci := 1) (v := .int t_desk_genus) (C := RX1) (T := TX1) (N := 5) hx hb hts hinX1 hown hK hP 1 rfl rfl 0 (by decide) (hta _ mw_389) (fun _ h9 => h9) rfl dX8_genus_15 ?_
  refine lv_istore_n (lv' := [(2, .int t_desk_genus), (0, .ref h_t), (1, .int p0)]) hx hb dX8_genus_18 rfl hl (by decide) rfl (fun ls hl => ?_)
  refine lv_aload_n hx hb dX8_genus_19 rfl (lv_at hl 1 rfl) ?_
  refine va_get (D := G) (ci := 7) (v := .ref h_t_desk) (C := RX8) (T := TX8) (N := 9) hx hb hts hinX8 hown hK hP 0 rfl rfl 0 (by decide) (hta _ mw_358) (fun _ h9 => h9) rfl dX8_genus_20 ?_
  refine lv_iload_n hx hb dX8_genus_23 rfl (lv_at hl 2 rfl) ?_
  refine va_put (D := G) (ci := 1) (v := .int p0) (ty := .int) (C := RX1) (T := TX1) (N := 5) hx hb hts hinX1 tyX1 tyX1_ok nmX1 hown hK hP hD hS 1 rfl rfl 0 (by decide) (hta _ mw_389) (fun _ h9 => h9) rfl (by decide +kernel) rfl rfl (Nat.le_of_ble_eq_true rfl) dX8_genus_24 (fun H locs hP hD hS => ?_)
  have hP : va_P G vwCl [(h_t, .inr (7, [.ref h_t_desk, .ref h_t_imageDesk, .ref h_t_deeds, .ref h_t_numbers, .ref h_t_tape, .ref h_t_reader, .ref h_t_speller, .ref h_t_holders, .int t_imageKept])), (h_t_desk, .inr (1, [.int p0, .int t_desk_size, .ref h_t_desk_powers, .int t_desk_limit, .long t_desk_tree])), (h_t_deeds, .inr (0, [.ref h_t_deeds_desks, .int t_deeds_now, .int t_deeds_last])), (h_t_deeds_desks, .inl (cD, 9, .inr (.inr (.inr (.inr (fun i => some (d_t_deeds_desks i))))))), ((d_t_deeds_desks 0), .inr (1, [.int (t_deeds_desks_genus 0), .int (t_deeds_desks_size 0), .ref (q_t_deeds_desks 0), .int (t_deeds_desks_limit 0), .long (t_deeds_desks_tree 0)])), ((q_t_deeds_desks 0), .inl (cI, 8, .inl (a_t_deeds_desks 0))), ((d_t_deeds_desks 1), .inr (1, [.int (t_deeds_desks_genus 1), .int (t_deeds_desks_size 1), .ref (q_t_deeds_desks 1), .int (t_deeds_desks_limit 1), .long (t_deeds_desks_tree 1)])), ((q_t_deeds_desks 1), .inl (cI, 8, .inl (a_t_deeds_desks 1))), ((d_t_deeds_desks 2), .inr (1, [.int (t_deeds_desks_genus 2), .int (t_deeds_desks_size 2), .ref (q_t_deeds_desks 2), .int (t_deeds_desks_limit 2), .long (t_deeds_desks_tree 2)])), ((q_t_deeds_desks 2), .inl (cI, 8, .inl (a_t_deeds_desks 2))), ((d_t_deeds_desks 3), .inr (1, [.int (t_deeds_desks_genus 3), .int (t_deeds_desks_size 3), .ref (q_t_deeds_desks 3), .int (t_deeds_desks_limit 3), .long (t_deeds_desks_tree 3)])), ((q_t_deeds_desks 3), .inl (cI, 8, .inl (a_t_deeds_desks 3))), ((d_t_deeds_desks 4), .inr (1, [.int (t_deeds_desks_genus 4), .int (t_deeds_desks_size 4), .ref (q_t_deeds_desks 4), .int (t_deeds_desks_limit 4), .long (t_deeds_desks_tree 4)])), ((q_t_deeds_desks 4), .inl (cI, 8, .inl (a_t_deeds_desks 4))), ((d_t_deeds_desks 5), .inr (1, [.int (t_deeds_desks_genus 5), .int (t_deeds_desks_size 5), .ref (q_t_deeds_desks 5), .int (t_deeds_desks_limit 5), .long (t_deeds_desks_tree 5)])), ((q_t_deeds_desks 5), .inl (cI, 8, .inl (a_t_deeds_desks 5))), ((d_t_deeds_desks 6), .inr (1, [.int (t_deeds_desks_genus 6), .int (t_deeds_desks_size 6), .ref (q_t_deeds_desks 6), .int (t_deeds_desks_limit 6), .long (t_deeds_desks_tree 6)])), ((q_t_deeds_desks 6), .inl (cI, 8, .inl (a_t_deeds_desks 6))), ((d_t_deeds_desks 7), .inr (1, [.int (t_deeds_desks_genus 7), .int (t_deeds_desks_size 7), .ref (q_t_deeds_desks 7), .int (t_deeds_desks_limit 7), .long (t_deeds_desks_tree 7)])), ((q_t_deeds_desks 7), .inl (cI, 8, .inl (a_t_deeds_desks 7))), ((d_t_deeds_desks 8), .inr (1, [.int (t_deeds_desks_genus 8), .int (t_deeds_desks_size 8), .ref (q_t_deeds_desks 8), .int (t_deeds_desks_limit 8), .long (t_deeds_desks_tree 8)])), ((q_t_deeds_desks 8), .inl (cI, 8, .inl (a_t_deeds_desks 8))), (h_t_desk_powers, .inl (cI, 8, .inl a_t_desk_powers))] H := hP
  have hD : va_D A [(h_t, .inr (7, [.ref h_t_desk, .ref h_t_imageDesk, .ref h_t_deeds, .ref h_t_numbers, .ref h_t_tape, .ref h_t_reader, .ref h_t_speller, .ref h_t_holders, .int t_imageKept])), (h_t_desk, .inr (1, [.int p0, .int t_desk_size, .ref h_t_desk_powers, .int t_desk_limit, .long t_desk_tree])), (h_t_deeds, .inr (0, [.ref h_t_deeds_desks, .int t_deeds_now, .int t_deeds_last])), (h_t_deeds_desks, .inl (cD, 9, .inr (.inr (.inr (.inr (fun i => some (d_t_deeds_desks i))))))), ((d_t_deeds_desks 0), .inr (1, [.int (t_deeds_desks_genus 0), .int (t_deeds_desks_size 0), .ref (q_t_deeds_desks 0), .int (t_deeds_desks_limit 0), .long (t_deeds_desks_tree 0)])), ((q_t_deeds_desks 0), .inl (cI, 8, .inl (a_t_deeds_desks 0))), ((d_t_deeds_desks 1), .inr (1, [.int (t_deeds_desks_genus 1), .int (t_deeds_desks_size 1), .ref (q_t_deeds_desks 1), .int (t_deeds_desks_limit 1), .long (t_deeds_desks_tree 1)])), ((q_t_deeds_desks 1), .inl (cI, 8, .inl (a_t_deeds_desks 1))), ((d_t_deeds_desks 2), .inr (1, [.int (t_deeds_desks_genus 2), .int (t_deeds_desks_size 2), .ref (q_t_deeds_desks 2), .int (t_deeds_desks_limit 2), .long (t_deeds_desks_tree 2)])), ((q_t_deeds_desks 2), .inl (cI, 8, .inl (a_t_deeds_desks 2))), ((d_t_deeds_desks 3), .inr (1, [.int (t_deeds_desks_genus 3), .int (t_deeds_desks_size 3), .ref (q_t_deeds_desks 3), .int (t_deeds_desks_limit 3), .long (t_deeds_desks_tree 3)])), ((q_t_deeds_desks 3), .inl (cI, 8, .inl (a_t_deeds_desks 3))), ((d_t_deeds_desks 4), .inr (1, [.int (t_deeds_desks_genus 4), .int (t_deeds_desks_size 4), .ref (q_t_deeds_desks 4), .int (t_deeds_desks_limit 4), .long (t_deeds_desks_tree 4)])), ((q_t_deeds_desks 4), .inl (cI, 8, .inl (a_t_deeds_desks 4))), ((d_t_deeds_desks 5), .inr (1, [.int (t_deeds_desks_genus 5), .int (t_deeds_desks_size 5), .ref (q_t_deeds_desks 5), .int (t_deeds_desks_limit 5), .long (t_deeds_desks_tree 5)])), ((q_t_deeds_desks 5), .inl (cI, 8, .inl (a_t_deeds_desks 5))), ((d_t_deeds_desks 6), .inr (1, [.int (t_deeds_desks_genus 6), .int (t_deeds_desks_size 6), .ref (q_t_deeds_desks 6), .int (t_deeds_desks_limit 6), .long (t_deeds_desks_tree 6)])), ((q_t_deeds_desks 6), .inl (cI, 8, .inl (a_t_deeds_desks 6))), ((d_t_deeds_desks 7), .inr (1, [.int (t_deeds_desks_genus 7), .int (t_deeds_desks_size 7), .ref (q_t_deeds_desks 7), .int (t_deeds_desks_limit 7), .long (t_deeds_desks_tree 7)])), ((q_t_deeds_desks 7), .inl (cI, 8, .inl (a_t_deeds_desks 7))), ((d_t_deeds_desks 8), .inr (1, [.int (t_deeds_desks_genus 8), .int (t_deeds_desks_size 8), .ref (q_t_deeds_desks 8), .int (t_deeds_desks_limit 8), .long (t_deeds_desks_tree 8)])), ((q_t_deeds_desks 8), .inl (cI, 8, .inl (a_t_deeds_desks 8))), (h_t_desk_powers, .inl (cI, 8, .inl a_t_desk_powers))] := hD
  refine lv_aload_n hx hb dX8_genus_27 rfl (lv_at hl 1 rfl) ?_
  refine va_get (D := G) (ci := 7) (v := .ref h_t_deeds) (C := RX8) (T := TX8) (N := 9) hx hb hts hinX8 hown hK hP 0 rfl rfl 2 (by decide) (hta _ mw_362) (fun _ h9 => h9) rfl dX8_genus_28 ?_
  refine lv_aload_n hx hb dX8_genus_31 rfl (lv_at hl 1 rfl) ?_
  refine va_get (D := G) (ci := 7) (v := .ref h_t_desk) (C := RX8) (T := TX8) (N := 9) hx hb hts hinX8 hown hK hP 0 rfl rfl 0 (by decide) (hta _ mw_358) (fun _ h9 => h9) rfl dX8_genus_32 ?_
  obtain ⟨x3, hx3, h⟩ := bd_e h
  try dsimp only at h
  refine k_VvPM (n := 1) (As := [.ref h_t_desk]) (rest := []) hx hb hml hown hts (c_X0_settle l G cI cJ cD cH H.size h_t_deeds h_t_desk h_t_deeds_desks h_t_desk_powers d_t_deeds_desks q_t_deeds_desks a_t_deeds_desks t_deeds_desks_genus t_deeds_desks_size t_deeds_desks_limit t_deeds_desks_tree t_deeds_now t_deeds_last p0 t_desk_size t_desk_limit t_desk_tree a_t_desk_powers (x3.1) (x3.2.1) (x3.2.2.1) (x3.2.2.2.1) (x3.2.2.2.2.1) (x3.2.2.2.2.2.1) (x3.2.2.2.2.2.2.1) (x3.2.2.2.2.2.2.2.1) (x3.2.2.2.2.2.2.2.2) hx3) gX8_genus_X0_settle rfl rfl rfl (by decide +kernel) ⟨by first | exact Nat.le_of_ble_eq_true rfl | (simp only [headSpec]; omega), by first | exact Nat.le_of_ble_eq_true rfl | (simp only [headSpec]; omega)⟩ hK hP hD hS hA [2, 1, 3, 4, 5, 6, 7, 8, 9, 10, 11, 12, 13, 14, 15, 16, 17, 18, 19, 20, 21, 22] (by decide) rfl rfl (ci := 0) rfl rfl rfl rfl rfl hl.1 (Nat.le_of_ble_eq_true rfl) dX8_genus_35 ⟨Nat.zero_le _, Nat.zero_le _⟩ [(h_t, .inr (7, [.ref h_t_desk, .ref h_t_imageDesk, .ref h_t_deeds, .ref h_t_numbers, .ref h_t_tape, .ref h_t_reader, .ref h_t_speller, .ref h_t_holders, .int t_imageKept])), (h_t_desk, .inr (1, [.int p0, .int t_desk_size, .ref h_t_desk_powers, .int t_desk_limit, .long t_desk_tree])), (h_t_deeds, .inr (0, [.ref h_t_deeds_desks, .int (x3.1), .int (x3.2.1)])), (h_t_deeds_desks, .inl (cD, 9, .inr (.inr (.inr (.inr (fun i => some ((x3.2.2.2.1) i))))))), (((x3.2.2.2.1) 0), .inr (1, [.int ((x3.2.2.2.2.1) 0), .int ((x3.2.2.2.2.2.2.2.1) 0), .ref ((x3.2.2.2.2.2.2.1) 0), .int ((x3.2.2.2.2.2.1) 0), .long ((x3.2.2.2.2.2.2.2.2) 0)])), (((x3.2.2.2.2.2.2.1) 0), .inl (cI, 8, .inl ((x3.2.2.1) 0))), (((x3.2.2.2.1) 1), .inr (1, [.int ((x3.2.2.2.2.1) 1), .int ((x3.2.2.2.2.2.2.2.1) 1), .ref ((x3.2.2.2.2.2.2.1) 1), .int ((x3.2.2.2.2.2.1) 1), .long ((x3.2.2.2.2.2.2.2.2) 1)])), (((x3.2.2.2.2.2.2.1) 1), .inl (cI, 8, .inl ((x3.2.2.1) 1))), (((x3.2.2.2.1) 2), .inr (1, [.int ((x3.2.2.2.2.1) 2), .int ((x3.2.2.2.2.2.2.2.1) 2), .ref ((x3.2.2.2.2.2.2.1) 2), .int ((x3.2.2.2.2.2.1) 2), .long ((x3.2.2.2.2.2.2.2.2) 2)])), (((x3.2.2.2.2.2.2.1) 2), .inl (cI, 8, .inl ((x3.2.2.1) 2))), (((x3.2.2.2.1) 3), .inr (1, [.int ((x3.2.2.2.2.1) 3), .int ((x3.2.2.2.2.2.2.2.1) 3), .ref ((x3.2.2.2.2.2.2.1) 3), .int ((x3.2.2.2.2.2.1) 3), .long ((x3.2.2.2.2.2.2.2.2) 3)])), (((x3.2.2.2.2.2.2.1) 3), .inl (cI, 8, .inl ((x3.2.2.1) 3))), (((x3.2.2.2.1) 4), .inr (1, [.int ((x3.2.2.2.2.1) 4), .int ((x3.2.2.2.2.2.2.2.1) 4), .ref ((x3.2.2.2.2.2.2.1) 4), .int ((x3.2.2.2.2.2.1) 4), .long ((x3.2.2.2.2.2.2.2.2) 4)])), (((x3.2.2.2.2.2.2.1) 4), .inl (cI, 8, .inl ((x3.2.2.1) 4))), (((x3.2.2.2.1) 5), .inr (1, [.int ((x3.2.2.2.2.1) 5), .int ((x3.2.2.2.2.2.2.2.1) 5), .ref ((x3.2.2.2.2.2.2.1) 5), .int ((x3.2.2.2.2.2.1) 5), .long ((x3.2.2.2.2.2.2.2.2) 5)])), (((x3.2.2.2.2.2.2.1) 5), .inl (cI, 8, .inl ((x3.2.2.1) 5))), (((x3.2.2.2.1) 6), .inr (1, [.int ((x3.2.2.2.2.1) 6), .int ((x3.2.2.2.2.2.2.2.1) 6), .ref ((x3.2.2.2.2.2.2.1) 6), .int ((x3.2.2.2.2.2.1) 6), .long ((x3.2.2.2.2.2.2.2.2) 6)])), (((x3.2.2.2.2.2.2.1) 6), .inl (cI, 8, .inl ((x3.2.2.1) 6))), (((x3.2.2.2.1) 7), .inr (1, [.int ((x3.2.2.2.2.1) 7), .int ((x3.2.2.2.2.2.2.2.1) 7), .ref ((x3.2.2.2.2.2.2.1) 7), .int ((x3.2.2.2.2.2.1) 7), .long ((x3.2.2.2.2.2.2.2.2) 7)])), (((x3.2.2.2.2.2.2.1) 7), .inl (cI, 8, .inl ((x3.2.2.1) 7))), (((x3.2.2.2.1) 8), .inr (1, [.int ((x3.2.2.2.2.1) 8), .int ((x3.2.2.2.2.2.2.2.1) 8), .ref ((x3.2.2.2.2.2.2.1) 8), .int ((x3.2.2.2.2.2.1) 8), .long ((x3.2.2.2.2.2.2.2.2) 8)])), (((x3.2.2.2.2.2.2.1) 8), .inl (cI, 8, .inl ((x3.2.2.1) 8))), (h_t_desk_powers, .inl (cI, 8, .inl a_t_desk_powers))] [0, 2, 1, 3, 4, 5, 6, 7, 8, 9, 10, 11, 12, 13, 14, 15, 16, 17, 18, 19, 20, 21, 22] 22 (by decide +kernel) rfl rfl (fun hp3 H locs hP hD hS => ?_)
  refine lv_iload_n hx hb dX8_genus_38 rfl (lv_at hl 0 rfl) ?_
  have h9 := Option.some.inj h
  have e9 : t_desk_genus = r0 := congrArg (fun z9 => z9.1) h9
  rw [← e9]
  have e9 : p0 = w0 := congrArg (fun z9 => z9.2.1) h9
  rw [← e9]
  have e9 : (x3.1) = w1 := congrArg (fun z9 => z9.2.2.1) h9
  rw [← e9]
  have e9 : (x3.2.1) = w2 := congrArg (fun z9 => z9.2.2.2.1) h9
  rw [← e9]
  have e9 : (x3.2.2.1) = w3 := congrArg (fun z9 => z9.2.2.2.2.1) h9
  rw [← e9]
  have e9 : (x3.2.2.2.1) = w4 := congrArg (fun z9 => z9.2.2.2.2.2.1) h9
  rw [← e9]
  have e9 : (x3.2.2.2.2.1) = w5 := congrArg (fun z9 => z9.2.2.2.2.2.2.1) h9
  rw [← e9]
  have e9 : (x3.2.2.2.2.2.1) = w6 := congrArg (fun z9 => z9.2.2.2.2.2.2.2.1) h9
  rw [← e9]
  have e9 : (x3.2.2.2.2.2.2.1) = w7 := congrArg (fun z9 => z9.2.2.2.2.2.2.2.2.1) h9
  rw [← e9]
  have e9 : (x3.2.2.2.2.2.2.2.1) = w8 := congrArg (fun z9 => z9.2.2.2.2.2.2.2.2.2.1) h9
  rw [← e9]
  have e9 : (x3.2.2.2.2.2.2.2.2) = w9 := congrArg (fun z9 => z9.2.2.2.2.2.2.2.2.2.2) h9
  rw [← e9]
  exact k_iretP hx hb hr hlocks hD hP hS rfl dX8_genus_39

/-! X8_isPower -/
set_option maxHeartbeats 4000000 in
set_option maxRecDepth 100000 in
theorem c_X8_isPower (l : Launch) (G : va_G) (cI cJ cD cH : ClassId) (sz : Nat) (p0 : Int32) (r0 : Int32) (hF : F_X8_isPower p0 = some r0) : Met l yX8_isPower wsX8_isPower ({ frames := 0, cells := 0, slots := 0, locals := 0 }) (k_pre G (k_T cI cJ cD cH) [] sz [.int p0]) (va_Qi (fun r (_ : Unit) => r = r0 ∧ narrow .boolean (.int r0) = .int r0) (fun _ t => va_P G vwCl [] t.heap) (va_A [] sz)) 0 0 (va_A [] sz) := by
  refine Met.ofW (cc := cX8_isPower) (maxL := 1) (ret := (some .boolean)) (by decide) rfl ?_
  intro p e s m args below meth c s₁ B hml hv
  obtain ⟨rfl, hsz, hP, hK, hD0⟩ := hv
  have hx := B.exec
  have hb := B.bytes
  have hr := B.returns
  have hts := atoms_spec (ws := wsX8_isPower) B.pre
  have hta : ∀ w ∈ wA, w.before ([.int p0] : List Value).toArray s = true := hta_of hts
  have hown : s.vm.findClass RX8 = some m.cls := findClass_of_methodNamed B.named
  have hlocks := B.notSynchronized
  subst hsz
  have hD := hD0.self (sz := s.heap.size)
  generalize hAe : va_A [] s.heap.size = A at hD ⊢
  have hA : ∀ q : Nat, s.heap.size ≤ q → A q := fun q h => by rw [← hAe]; exact Or.inr h
  have hS : va_S A s.heap s.heap [] := va_S.rf
  have hl := lv_entry ([.int p0]) (n := 1) (Nat.le_of_ble_eq_true rfl)
  rw [lg_entry_eq]
  generalize (lg_sl ([.int p0]) ++ List.replicate (1 - (lg_sl ([.int p0])).length) Slot.unset).toArray = ls at hl ⊢
  have hl : lv_has ls 1 [(0, .int p0)] := hl
  have h := hF
  unfold F_X8_isPower at h
  refine lv_iload_n hx hb dX8_isPower_0 rfl (lv_at hl 0 rfl) ?_
  refine lv_if_lt (tgt := 14) hx hb dX8_isPower_1 (by decide) (fun c1 => ?_) (fun c1 => ?_)
  · have h := it_p h c1
    refine lv_iconst (v := (0 : Int32)) hx hb dX8_isPower_14 (by decide) ?_
    have h9 := Option.some.inj h
    have e9 : (0 : Int32) = r0 := congrArg (fun z9 => z9) h9
    rw [← e9]
    exact k_zret hx hb hr hlocks hP hS rfl rfl dX8_isPower_15
  have h := it_n h c1
  refine lv_iload_n hx hb dX8_isPower_4 rfl (lv_at hl 0 rfl) ?_
  refine lv_bipush (v := (12 : Int32)) hx hb dX8_isPower_5 (by decide) ?_
  refine lv_icmp_gt (tgt := 14) hx hb dX8_isPower_7 (by decide) (fun c2 => ?_) (fun c2 => ?_)
  · have h := it_p h c2
    refine lv_iconst (v := (0 : Int32)) hx hb dX8_isPower_14 (by decide) ?_
    have h9 := Option.some.inj h
    have e9 : (0 : Int32) = r0 := congrArg (fun z9 => z9) h9
    rw [← e9]
    exact k_zret hx hb hr hlocks hP hS rfl rfl dX8_isPower_15
  have h := it_n h c2
  refine lv_iconst (v := (1 : Int32)) hx hb dX8_isPower_10 (by decide) ?_
  refine lv_goto (tgt := 15) hx hb dX8_isPower_11 (by decide) ?_
  have h9 := Option.some.inj h
  have e9 : (1 : Int32) = r0 := congrArg (fun z9 => z9) h9
  rw [← e9]
  exact k_zret hx hb hr hlocks hP hS rfl rfl dX8_isPower_15

/-! X8_mark -/
set_option maxHeartbeats 40000000 in
set_option maxRecDepth 100000 in
theorem c_X8_mark (l : Launch) (G : va_G) (cI cJ cD cH : ClassId) (sz : Nat) (h_t : Nat) (h_t_desk : Nat) (h_t_desk_powers : Nat) (h_t_deeds : Nat) (h_t_deeds_desks : Nat) (h_t_imageDesk : Nat) (h_t_numbers : Nat) (h_t_tape : Nat) (h_t_reader : Nat) (h_t_speller : Nat) (h_t_holders : Nat) (d_t_deeds_desks : Nat → Nat) (q_t_deeds_desks : Nat → Nat) (a_t_deeds_desks : Nat → Nat → Int32) (t_deeds_desks_genus : Nat → Int32) (t_deeds_desks_size : Nat → Int32) (t_deeds_desks_limit : Nat → Int32) (t_deeds_desks_tree : Nat → Int64) (t_imageKept : Int32) (t_desk_genus : Int32) (t_desk_size : Int32) (t_desk_limit : Int32) (t_desk_tree : Int64) (a_t_desk_powers : Nat → Int32) (t_deeds_now : Int32) (t_deeds_last : Int32) (p0 : Int32) (r0 : Int32) (w0 : Nat → Int32) (w1 : Int32) (w2 : Int32) (w3 : Int32) (w4 : Nat → Nat → Int32) (w5 : Nat → Nat) (w6 : Nat → Int32) (w7 : Nat → Int32) (w8 : Nat → Nat) (w9 : Nat → Int32) (w10 : Nat → Int64) (hF : F_X8_mark d_t_deeds_desks q_t_deeds_desks a_t_deeds_desks t_deeds_desks_genus t_deeds_desks_size t_deeds_desks_limit t_deeds_desks_tree t_desk_genus t_desk_size t_desk_limit t_desk_tree a_t_desk_powers t_deeds_now t_deeds_last p0 = some (r0, w0, w1, w2, w3, w4, w5, w6, w7, w8, w9, w10)) : Met l yX8_mark wsX8_mark ({ frames := 4, cells := 0, slots := 0, locals := 86 }) (k_pre G (k_T cI cJ cD cH) [(h_t, .inr (7, [.ref h_t_desk, .ref h_t_imageDesk, .ref h_t_deeds, .ref h_t_numbers, .ref h_t_tape, .ref h_t_reader, .ref h_t_speller, .ref h_t_holders, .int t_imageKept])), (h_t_desk, .inr (1, [.int t_desk_genus, .int t_desk_size, .ref h_t_desk_powers, .int t_desk_limit, .long t_desk_tree])), (h_t_desk_powers, .inl (cI, 8, .inl a_t_desk_powers)), (h_t_deeds, .inr (0, [.ref h_t_deeds_desks, .int t_deeds_now, .int t_deeds_last])), (h_t_deeds_desks, .inl (cD, 9, .inr (.inr (.inr (.inr (fun i => some (d_t_deeds_desks i))))))), ((d_t_deeds_desks 0), .inr (1, [.int (t_deeds_desks_genus 0), .int (t_deeds_desks_size 0), .ref (q_t_deeds_desks 0), .int (t_deeds_desks_limit 0), .long (t_deeds_desks_tree 0)])), ((q_t_deeds_desks 0), .inl (cI, 8, .inl (a_t_deeds_desks 0))), ((d_t_deeds_desks 1), .inr (1, [.int (t_deeds_desks_genus 1), .int (t_deeds_desks_size 1), .ref (q_t_deeds_desks 1), .int (t_deeds_desks_limit 1), .long (t_deeds_desks_tree 1)])), ((q_t_deeds_desks 1), .inl (cI, 8, .inl (a_t_deeds_desks 1))), ((d_t_deeds_desks 2), .inr (1, [.int (t_deeds_desks_genus 2), .int (t_deeds_desks_size 2), .ref (q_t_deeds_desks 2), .int (t_deeds_desks_limit 2), .long (t_deeds_desks_tree 2)])), ((q_t_deeds_desks 2), .inl (cI, 8, .inl (a_t_deeds_desks 2))), ((d_t_deeds_desks 3), .inr (1, [.int (t_deeds_desks_genus 3), .int (t_deeds_desks_size 3), .ref (q_t_deeds_desks 3), .int (t_deeds_desks_limit 3), .long (t_deeds_desks_tree 3)])), ((q_t_deeds_desks 3), .inl (cI, 8, .inl (a_t_deeds_desks 3))), ((d_t_deeds_desks 4), .inr (1, [.int (t_deeds_desks_genus 4), .int (t_deeds_desks_size 4), .ref (q_t_deeds_desks 4), .int (t_deeds_desks_limit 4), .long (t_deeds_desks_tree 4)])), ((q_t_deeds_desks 4), .inl (cI, 8, .inl (a_t_deeds_desks 4))), ((d_t_deeds_desks 5), .inr (1, [.int (t_deeds_desks_genus 5), .int (t_deeds_desks_size 5), .ref (q_t_deeds_desks 5), .int (t_deeds_desks_limit 5), .long (t_deeds_desks_tree 5)])), ((q_t_deeds_desks 5), .inl (cI, 8, .inl (a_t_deeds_desks 5))), ((d_t_deeds_desks 6), .inr (1, [.int (t_deeds_desks_genus 6), .int (t_deeds_desks_size 6), .ref (q_t_deeds_desks 6), .int (t_deeds_desks_limit 6), .long (t_deeds_desks_tree 6)])), ((q_t_deeds_desks 6), .inl (cI, 8, .inl (a_t_deeds_desks 6))), ((d_t_deeds_desks 7), .inr (1, [.int (t_deeds_desks_genus 7), .int (t_deeds_desks_size 7), .ref (q_t_deeds_desks 7), .int (t_deeds_desks_limit 7), .long (t_deeds_desks_tree 7)])), ((q_t_deeds_desks 7), .inl (cI, 8, .inl (a_t_deeds_desks 7))), ((d_t_deeds_desks 8), .inr (1, [.int (t_deeds_desks_genus 8), .int (t_deeds_desks_size 8), .ref (q_t_deeds_desks 8), .int (t_deeds_desks_limit 8), .long (t_deeds_desks_tree 8)])), ((q_t_deeds_desks 8), .inl (cI, 8, .inl (a_t_deeds_desks 8)))] sz [.ref h_t, .int p0]) (va_Qi (fun r (_ : Unit) => r = r0 ∧ True) (fun _ t => va_P G vwCl [(h_t, .inr (7, [.ref h_t_desk, .ref h_t_imageDesk, .ref h_t_deeds, .ref h_t_numbers, .ref h_t_tape, .ref h_t_reader, .ref h_t_speller, .ref h_t_holders, .int t_imageKept])), (h_t_desk, .inr (1, [.int t_desk_genus, .int w1, .ref h_t_desk_powers, .int t_desk_limit, .long t_desk_tree])), (h_t_desk_powers, .inl (cI, 8, .inl w0)), (h_t_deeds, .inr (0, [.ref h_t_deeds_desks, .int w2, .int w3])), (h_t_deeds_desks, .inl (cD, 9, .inr (.inr (.inr (.inr (fun i => some (w5 i))))))), ((w5 0), .inr (1, [.int (w6 0), .int (w9 0), .ref (w8 0), .int (w7 0), .long (w10 0)])), ((w8 0), .inl (cI, 8, .inl (w4 0))), ((w5 1), .inr (1, [.int (w6 1), .int (w9 1), .ref (w8 1), .int (w7 1), .long (w10 1)])), ((w8 1), .inl (cI, 8, .inl (w4 1))), ((w5 2), .inr (1, [.int (w6 2), .int (w9 2), .ref (w8 2), .int (w7 2), .long (w10 2)])), ((w8 2), .inl (cI, 8, .inl (w4 2))), ((w5 3), .inr (1, [.int (w6 3), .int (w9 3), .ref (w8 3), .int (w7 3), .long (w10 3)])), ((w8 3), .inl (cI, 8, .inl (w4 3))), ((w5 4), .inr (1, [.int (w6 4), .int (w9 4), .ref (w8 4), .int (w7 4), .long (w10 4)])), ((w8 4), .inl (cI, 8, .inl (w4 4))), ((w5 5), .inr (1, [.int (w6 5), .int (w9 5), .ref (w8 5), .int (w7 5), .long (w10 5)])), ((w8 5), .inl (cI, 8, .inl (w4 5))), ((w5 6), .inr (1, [.int (w6 6), .int (w9 6), .ref (w8 6), .int (w7 6), .long (w10 6)])), ((w8 6), .inl (cI, 8, .inl (w4 6))), ((w5 7), .inr (1, [.int (w6 7), .int (w9 7), .ref (w8 7), .int (w7 7), .long (w10 7)])), ((w8 7), .inl (cI, 8, .inl (w4 7))), ((w5 8), .inr (1, [.int (w6 8), .int (w9 8), .ref (w8 8), .int (w7 8), .long (w10 8)])), ((w8 8), .inl (cI, 8, .inl (w4 8)))] t.heap ∧ va_D (va_A [(h_t, .inr (7, [.ref h_t_desk, .ref h_t_imageDesk, .ref h_t_deeds, .ref h_t_numbers, .ref h_t_tape, .ref h_t_reader, .ref h_t_speller, .ref h_t_holders, .int t_imageKept])), (h_t_desk, .inr (1, [.int t_desk_genus, .int t_desk_size, .ref h_t_desk_powers, .int t_desk_limit, .long t_desk_tree])), (h_t_desk_powers, .inl (cI, 8, .inl a_t_desk_powers)), (h_t_deeds, .inr (0, [.ref h_t_deeds_desks, .int t_deeds_now, .int t_deeds_last])), (h_t_deeds_desks, .inl (cD, 9, .inr (.inr (.inr (.inr (fun i => some (d_t_deeds_desks i))))))), ((d_t_deeds_desks 0), .inr (1, [.int (t_deeds_desks_genus 0), .int (t_deeds_desks_size 0), .ref (q_t_deeds_desks 0), .int (t_deeds_desks_limit 0), .long (t_deeds_desks_tree 0)])), ((q_t_deeds_desks 0), .inl (cI, 8, .inl (a_t_deeds_desks 0))), ((d_t_deeds_desks 1), .inr (1, [.int (t_deeds_desks_genus 1), .int (t_deeds_desks_size 1), .ref (q_t_deeds_desks 1), .int (t_deeds_desks_limit 1), .long (t_deeds_desks_tree 1)])), ((q_t_deeds_desks 1), .inl (cI, 8, .inl (a_t_deeds_desks 1))), ((d_t_deeds_desks 2), .inr (1, [.int (t_deeds_desks_genus 2), .int (t_deeds_desks_size 2), .ref (q_t_deeds_desks 2), .int (t_deeds_desks_limit 2), .long (t_deeds_desks_tree 2)])), ((q_t_deeds_desks 2), .inl (cI, 8, .inl (a_t_deeds_desks 2))), ((d_t_deeds_desks 3), .inr (1, [.int (t_deeds_desks_genus 3), .int (t_deeds_desks_size 3), .ref (q_t_deeds_desks 3), .int (t_deeds_desks_limit 3), .long (t_deeds_desks_tree 3)])), ((q_t_deeds_desks 3), .inl (cI, 8, .inl (a_t_deeds_desks 3))), ((d_t_deeds_desks 4), .inr (1, [.int (t_deeds_desks_genus 4), .int (t_deeds_desks_size 4), .ref (q_t_deeds_desks 4), .int (t_deeds_desks_limit 4), .long (t_deeds_desks_tree 4)])), ((q_t_deeds_desks 4), .inl (cI, 8, .inl (a_t_deeds_desks 4))), ((d_t_deeds_desks 5), .inr (1, [.int (t_deeds_desks_genus 5), .int (t_deeds_desks_size 5), .ref (q_t_deeds_desks 5), .int (t_deeds_desks_limit 5), .long (t_deeds_desks_tree 5)])), ((q_t_deeds_desks 5), .inl (cI, 8, .inl (a_t_deeds_desks 5))), ((d_t_deeds_desks 6), .inr (1, [.int (t_deeds_desks_genus 6), .int (t_deeds_desks_size 6), .ref (q_t_deeds_desks 6), .int (t_deeds_desks_limit 6), .long (t_deeds_desks_tree 6)])), ((q_t_deeds_desks 6), .inl (cI, 8, .inl (a_t_deeds_desks 6))), ((d_t_deeds_desks 7), .inr (1, [.int (t_deeds_desks_genus 7), .int (t_deeds_desks_size 7), .ref (q_t_deeds_desks 7), .int (t_deeds_desks_limit 7), .long (t_deeds_desks_tree 7)])), ((q_t_deeds_desks 7), .inl (cI, 8, .inl (a_t_deeds_desks 7))), ((d_t_deeds_desks 8), .inr (1, [.int (t_deeds_desks_genus 8), .int (t_deeds_desks_size 8), .ref (q_t_deeds_desks 8), .int (t_deeds_desks_limit 8), .long (t_deeds_desks_tree 8)])), ((q_t_deeds_desks 8), .inl (cI, 8, .inl (a_t_deeds_desks 8)))] sz) [(h_t, .inr (7, [.ref h_t_desk, .ref h_t_imageDesk, .ref h_t_deeds, .ref h_t_numbers, .ref h_t_tape, .ref h_t_reader, .ref h_t_speller, .ref h_t_holders, .int t_imageKept])), (h_t_desk, .inr (1, [.int t_desk_genus, .int w1, .ref h_t_desk_powers, .int t_desk_limit, .long t_desk_tree])), (h_t_desk_powers, .inl (cI, 8, .inl w0)), (h_t_deeds, .inr (0, [.ref h_t_deeds_desks, .int w2, .int w3])), (h_t_deeds_desks, .inl (cD, 9, .inr (.inr (.inr (.inr (fun i => some (w5 i))))))), ((w5 0), .inr (1, [.int (w6 0), .int (w9 0), .ref (w8 0), .int (w7 0), .long (w10 0)])), ((w8 0), .inl (cI, 8, .inl (w4 0))), ((w5 1), .inr (1, [.int (w6 1), .int (w9 1), .ref (w8 1), .int (w7 1), .long (w10 1)])), ((w8 1), .inl (cI, 8, .inl (w4 1))), ((w5 2), .inr (1, [.int (w6 2), .int (w9 2), .ref (w8 2), .int (w7 2), .long (w10 2)])), ((w8 2), .inl (cI, 8, .inl (w4 2))), ((w5 3), .inr (1, [.int (w6 3), .int (w9 3), .ref (w8 3), .int (w7 3), .long (w10 3)])), ((w8 3), .inl (cI, 8, .inl (w4 3))), ((w5 4), .inr (1, [.int (w6 4), .int (w9 4), .ref (w8 4), .int (w7 4), .long (w10 4)])), ((w8 4), .inl (cI, 8, .inl (w4 4))), ((w5 5), .inr (1, [.int (w6 5), .int (w9 5), .ref (w8 5), .int (w7 5), .long (w10 5)])), ((w8 5), .inl (cI, 8, .inl (w4 5))), ((w5 6), .inr (1, [.int (w6 6), .int (w9 6), .ref (w8 6), .int (w7 6), .long (w10 6)])), ((w8 6), .inl (cI, 8, .inl (w4 6))), ((w5 7), .inr (1, [.int (w6 7), .int (w9 7), .ref (w8 7), .int (w7 7), .long (w10 7)])), ((w8 7), .inl (cI, 8, .inl (w4 7))), ((w5 8), .inr (1, [.int (w6 8), .int (w9 8), .ref (w8 8), .int (w7 8), .long (w10 8)])), ((w8 8), .inl (cI, 8, .inl (w4 8)))]) (va_A [(h_t, .inr (7, [.ref h_t_desk, .ref h_t_imageDesk, .ref h_t_deeds, .ref h_t_numbers, .ref h_t_tape, .ref h_t_reader, .ref h_t_speller, .ref h_t_holders, .int t_imageKept])), (h_t_desk, .inr (1, [.int t_desk_genus, .int t_desk_size, .ref h_t_desk_powers, .int t_desk_limit, .long t_desk_tree])), (h_t_desk_powers, .inl (cI, 8, .inl a_t_desk_powers)), (h_t_deeds, .inr (0, [.ref h_t_deeds_desks, .int t_deeds_now, .int t_deeds_last])), (h_t_deeds_desks, .inl (cD, 9, .inr (.inr (.inr (.inr (fun i => some (d_t_deeds_desks i))))))), ((d_t_deeds_desks 0), .inr (1, [.int (t_deeds_desks_genus 0), .int (t_deeds_desks_size 0), .ref (q_t_deeds_desks 0), .int (t_deeds_desks_limit 0), .long (t_deeds_desks_tree 0)])), ((q_t_deeds_desks 0), .inl (cI, 8, .inl (a_t_deeds_desks 0))), ((d_t_deeds_desks 1), .inr (1, [.int (t_deeds_desks_genus 1), .int (t_deeds_desks_size 1), .ref (q_t_deeds_desks 1), .int (t_deeds_desks_limit 1), .long (t_deeds_desks_tree 1)])), ((q_t_deeds_desks 1), .inl (cI, 8, .inl (a_t_deeds_desks 1))), ((d_t_deeds_desks 2), .inr (1, [.int (t_deeds_desks_genus 2), .int (t_deeds_desks_size 2), .ref (q_t_deeds_desks 2), .int (t_deeds_desks_limit 2), .long (t_deeds_desks_tree 2)])), ((q_t_deeds_desks 2), .inl (cI, 8, .inl (a_t_deeds_desks 2))), ((d_t_deeds_desks 3), .inr (1, [.int (t_deeds_desks_genus 3), .int (t_deeds_desks_size 3), .ref (q_t_deeds_desks 3), .int (t_deeds_desks_limit 3), .long (t_deeds_desks_tree 3)])), ((q_t_deeds_desks 3), .inl (cI, 8, .inl (a_t_deeds_desks 3))), ((d_t_deeds_desks 4), .inr (1, [.int (t_deeds_desks_genus 4), .int (t_deeds_desks_size 4), .ref (q_t_deeds_desks 4), .int (t_deeds_desks_limit 4), .long (t_deeds_desks_tree 4)])), ((q_t_deeds_desks 4), .inl (cI, 8, .inl (a_t_deeds_desks 4))), ((d_t_deeds_desks 5), .inr (1, [.int (t_deeds_desks_genus 5), .int (t_deeds_desks_size 5), .ref (q_t_deeds_desks 5), .int (t_deeds_desks_limit 5), .long (t_deeds_desks_tree 5)])), ((q_t_deeds_desks 5), .inl (cI, 8, .inl (a_t_deeds_desks 5))), ((d_t_deeds_desks 6), .inr (1, [.int (t_deeds_desks_genus 6), .int (t_deeds_desks_size 6), .ref (q_t_deeds_desks 6), .int (t_deeds_desks_limit 6), .long (t_deeds_desks_tree 6)])), ((q_t_deeds_desks 6), .inl (cI, 8, .inl (a_t_deeds_desks 6))), ((d_t_deeds_desks 7), .inr (1, [.int (t_deeds_desks_genus 7), .int (t_deeds_desks_size 7), .ref (q_t_deeds_desks 7), .int (t_deeds_desks_limit 7), .long (t_deeds_desks_tree 7)])), ((q_t_deeds_desks 7), .inl (cI, 8, .inl (a_t_deeds_desks 7))), ((d_t_deeds_desks 8), .inr (1, [.int (t_deeds_desks_genus 8), .int (t_deeds_desks_size 8), .ref (q_t_deeds_desks 8), .int (t_deeds_desks_limit 8), .long (t_deeds_desks_tree 8)])), ((q_t_deeds_desks 8), .inl (cI, 8, .inl (a_t_deeds_desks 8)))] sz)) 0 0 (va_A [(h_t, .inr (7, [.ref h_t_desk, .ref h_t_imageDesk, .ref h_t_deeds, .ref h_t_numbers, .ref h_t_tape, .ref h_t_reader, .ref h_t_speller, .ref h_t_holders, .int t_imageKept])), (h_t_desk, .inr (1, [.int t_desk_genus, .int t_desk_size, .ref h_t_desk_powers, .int t_desk_limit, .long t_desk_tree])), (h_t_desk_powers, .inl (cI, 8, .inl a_t_desk_powers)), (h_t_deeds, .inr (0, [.ref h_t_deeds_desks, .int t_deeds_now, .int t_deeds_last])), (h_t_deeds_desks, .inl (cD, 9, .inr (.inr (.inr (.inr (fun i => some (d_t_deeds_desks i))))))), ((d_t_deeds_desks 0), .inr (1, [.int (t_deeds_desks_genus 0), .int (t_deeds_desks_size 0), .ref (q_t_deeds_desks 0), .int (t_deeds_desks_limit 0), .long (t_deeds_desks_tree 0)])), ((q_t_deeds_desks 0), .inl (cI, 8, .inl (a_t_deeds_desks 0))), ((d_t_deeds_desks 1), .inr (1, [.int (t_deeds_desks_genus 1), .int (t_deeds_desks_size 1), .ref (q_t_deeds_desks 1), .int (t_deeds_desks_limit 1), .long (t_deeds_desks_tree 1)])), ((q_t_deeds_desks 1), .inl (cI, 8, .inl (a_t_deeds_desks 1))), ((d_t_deeds_desks 2), .inr (1, [.int (t_deeds_desks_genus 2), .int (t_deeds_desks_size 2), .ref (q_t_deeds_desks 2), .int (t_deeds_desks_limit 2), .long (t_deeds_desks_tree 2)])), ((q_t_deeds_desks 2), .inl (cI, 8, .inl (a_t_deeds_desks 2))), ((d_t_deeds_desks 3), .inr (1, [.int (t_deeds_desks_genus 3), .int (t_deeds_desks_size 3), .ref (q_t_deeds_desks 3), .int (t_deeds_desks_limit 3), .long (t_deeds_desks_tree 3)])), ((q_t_deeds_desks 3), .inl (cI, 8, .inl (a_t_deeds_desks 3))), ((d_t_deeds_desks 4), .inr (1, [.int (t_deeds_desks_genus 4), .int (t_deeds_desks_size 4), .ref (q_t_deeds_desks 4), .int (t_deeds_desks_limit 4), .long (t_deeds_desks_tree 4)])), ((q_t_deeds_desks 4), .inl (cI, 8, .inl (a_t_deeds_desks 4))), ((d_t_deeds_desks 5), .inr (1, [.int (t_deeds_desks_genus 5), .int (t_deeds_desks_size 5), .ref (q_t_deeds_desks 5), .int (t_deeds_desks_limit 5), .long (t_deeds_desks_tree 5)])), ((q_t_deeds_desks 5), .inl (cI, 8, .inl (a_t_deeds_desks 5))), ((d_t_deeds_desks 6), .inr (1, [.int (t_deeds_desks_genus 6), .int (t_deeds_desks_size 6), .ref (q_t_deeds_desks 6), .int (t_deeds_desks_limit 6), .long (t_deeds_desks_tree 6)])), ((q_t_deeds_desks 6), .inl (cI, 8, .inl (a_t_deeds_desks 6))), ((d_t_deeds_desks 7), .inr (1, [.int (t_deeds_desks_genus 7), .int (t_deeds_desks_size 7), .ref (q_t_deeds_desks 7), .int (t_deeds_desks_limit 7), .long (t_deeds_desks_tree 7)])), ((q_t_deeds_desks 7), .inl (cI, 8, .inl (a_t_deeds_desks 7))), ((d_t_deeds_desks 8), .inr (1, [.int (t_deeds_desks_genus 8), .int (t_deeds_desks_size 8), .ref (q_t_deeds_desks 8), .int (t_deeds_desks_limit 8), .long (t_deeds_desks_tree 8)])), ((q_t_deeds_desks 8), .inl (cI, 8, .inl (a_t_deeds_desks 8)))] sz) := by
  refine Met.ofW (cc := cX8_mark) (maxL := 2) (ret := (some .int)) (by decide) rfl ?_
  intro p e s m args below meth c s₁ B hml hv
  obtain ⟨rfl, hsz, hP, hK, hD0⟩ := hv
  have hx := B.exec
  have hb := B.bytes
  have hr := B.returns
  have hts := atoms_spec (ws := wsX8_mark) B.pre
  have hta : ∀ w ∈ wA, w.before ([.ref h_t, .int p0] : List Value).toArray s = true := hta_of hts
  have hown : s.vm.findClass RX8 = some m.cls := findClass_of_methodNamed B.named
  have hlocks := B.notSynchronized
  subst hsz
  have hD := hD0.self (sz := s.heap.size)
  generalize hAe : va_A [(h_t, .inr (7, [.ref h_t_desk, .ref h_t_imageDesk, .ref h_t_deeds, .ref h_t_numbers, .ref h_t_tape, .ref h_t_reader, .ref h_t_speller, .ref h_t_holders, .int t_imageKept])), (h_t_desk, .inr (1, [.int t_desk_genus, .int t_desk_size, .ref h_t_desk_powers, .int t_desk_limit, .long t_desk_tree])), (h_t_desk_powers, .inl (cI, 8, .inl a_t_desk_powers)), (h_t_deeds, .inr (0, [.ref h_t_deeds_desks, .int t_deeds_now, .int t_deeds_last])), (h_t_deeds_desks, .inl (cD, 9, .inr (.inr (.inr (.inr (fun i => some (d_t_deeds_desks i))))))), ((d_t_deeds_desks 0), .inr (1, [.int (t_deeds_desks_genus 0), .int (t_deeds_desks_size 0), .ref (q_t_deeds_desks 0), .int (t_deeds_desks_limit 0), .long (t_deeds_desks_tree 0)])), ((q_t_deeds_desks 0), .inl (cI, 8, .inl (a_t_deeds_desks 0))), ((d_t_deeds_desks 1), .inr (1, [.int (t_deeds_desks_genus 1), .int (t_deeds_desks_size 1), .ref (q_t_deeds_desks 1), .int (t_deeds_desks_limit 1), .long (t_deeds_desks_tree 1)])), ((q_t_deeds_desks 1), .inl (cI, 8, .inl (a_t_deeds_desks 1))), ((d_t_deeds_desks 2), .inr (1, [.int (t_deeds_desks_genus 2), .int (t_deeds_desks_size 2), .ref (q_t_deeds_desks 2), .int (t_deeds_desks_limit 2), .long (t_deeds_desks_tree 2)])), ((q_t_deeds_desks 2), .inl (cI, 8, .inl (a_t_deeds_desks 2))), ((d_t_deeds_desks 3), .inr (1, [.int (t_deeds_desks_genus 3), .int (t_deeds_desks_size 3), .ref (q_t_deeds_desks 3), .int (t_deeds_desks_limit 3), .long (t_deeds_desks_tree 3)])), ((q_t_deeds_desks 3), .inl (cI, 8, .inl (a_t_deeds_desks 3))), ((d_t_deeds_desks 4), .inr (1, [.int (t_deeds_desks_genus 4), .int (t_deeds_desks_size 4), .ref (q_t_deeds_desks 4), .int (t_deeds_desks_limit 4), .long (t_deeds_desks_tree 4)])), ((q_t_deeds_desks 4), .inl (cI, 8, .inl (a_t_deeds_desks 4))), ((d_t_deeds_desks 5), .inr (1, [.int (t_deeds_desks_genus 5), .int (t_deeds_desks_size 5), .ref (q_t_deeds_desks 5), .int (t_deeds_desks_limit 5), .long (t_deeds_desks_tree 5)])), ((q_t_deeds_desks 5), .inl (cI, 8, .inl (a_t_deeds_desks 5))), ((d_t_deeds_desks 6), .inr (1, [.int (t_deeds_desks_genus 6), .int (t_deeds_desks_size 6), .ref (q_t_deeds_desks 6), .int (t_deeds_desks_limit 6), .long (t_deeds_desks_tree 6)])), ((q_t_deeds_desks 6), .inl (cI, 8, .inl (a_t_deeds_desks 6))), ((d_t_deeds_desks 7), .inr (1, [.int (t_deeds_desks_genus 7), .int (t_deeds_desks_size 7), .ref (q_t_deeds_desks 7), .int (t_deeds_desks_limit 7), .long (t_deeds_desks_tree 7)])), ((q_t_deeds_desks 7), .inl (cI, 8, .inl (a_t_deeds_desks 7))), ((d_t_deeds_desks 8), .inr (1, [.int (t_deeds_desks_genus 8), .int (t_deeds_desks_size 8), .ref (q_t_deeds_desks 8), .int (t_deeds_desks_limit 8), .long (t_deeds_desks_tree 8)])), ((q_t_deeds_desks 8), .inl (cI, 8, .inl (a_t_deeds_desks 8)))] s.heap.size = A at hD ⊢
  have hA : ∀ q : Nat, s.heap.size ≤ q → A q := fun q h => by rw [← hAe]; exact Or.inr h
  have hS : va_S A s.heap s.heap [] := va_S.rf
  have hl := lv_entry ([.ref h_t, .int p0]) (n := 2) (Nat.le_of_ble_eq_true rfl)
  rw [lg_entry_eq]
  generalize (lg_sl ([.ref h_t, .int p0]) ++ List.replicate (2 - (lg_sl ([.ref h_t, .int p0])).length) Slot.unset).toArray = ls at hl ⊢
  have hl : lv_has ls 2 [(0, .ref h_t), (1, .int p0)] := hl
  have hinX1 : ∀ w ∈ wsX10, w ∈ wsX8_mark := hin_of in_X1
  have hinX8 : ∀ w ∈ wsX80, w ∈ wsX8_mark := hin_of in_X8
  have h := hF
  unfold F_X8_mark at h
  refine lv_iload_n hx hb dX8_mark_0 rfl (lv_at hl 1 rfl) ?_
  obtain ⟨x1, hx1, h⟩ := bd_e h
  try dsimp only at h
  refine k_SiU (n := 1) (As := [.int p0]) (rest := []) hx hb hml hown hts (c_X8_isPower l G cI cJ cD cH s.heap.size p0 x1 hx1) gX8_mark_X8_isPower rfl rfl rfl (by decide +kernel) ⟨by first | exact Nat.le_of_ble_eq_true rfl | (simp only [headSpec]; omega), by first | exact Nat.le_of_ble_eq_true rfl | (simp only [headSpec]; omega)⟩ hK hP hD hS hA [] (by decide) rfl rfl rfl hl.1 (Nat.le_of_ble_eq_true rfl) dX8_mark_1 ⟨Nat.zero_le _, Nat.zero_le _⟩ (fun hp1 H locs hP hS => ?_)
  refine lv_if_ne (tgt := 9) hx hb dX8_mark_4 (by decide) (fun c2 => ?_) (fun c2 => ?_)
  rotate_left
  · have h := it_p h c2
    refine lv_iconst (v := (-1 : Int32)) hx hb dX8_mark_7 (by decide) ?_
    have h9 := Option.some.inj h
    have e9 : (-1 : Int32) = r0 := congrArg (fun z9 => z9.1) h9
    rw [← e9]
    have e9 : a_t_desk_powers = w0 := congrArg (fun z9 => z9.2.1) h9
    rw [← e9]
    have e9 : t_desk_size = w1 := congrArg (fun z9 => z9.2.2.1) h9
    rw [← e9]
    have e9 : t_deeds_now = w2 := congrArg (fun z9 => z9.2.2.2.1) h9
    rw [← e9]
    have e9 : t_deeds_last = w3 := congrArg (fun z9 => z9.2.2.2.2.1) h9
    rw [← e9]
    have e9 : a_t_deeds_desks = w4 := congrArg (fun z9 => z9.2.2.2.2.2.1) h9
    rw [← e9]
    have e9 : d_t_deeds_desks = w5 := congrArg (fun z9 => z9.2.2.2.2.2.2.1) h9
    rw [← e9]
    have e9 : t_deeds_desks_genus = w6 := congrArg (fun z9 => z9.2.2.2.2.2.2.2.1) h9
    rw [← e9]
    have e9 : t_deeds_desks_limit = w7 := congrArg (fun z9 => z9.2.2.2.2.2.2.2.2.1) h9
    rw [← e9]
    have e9 : q_t_deeds_desks = w8 := congrArg (fun z9 => z9.2.2.2.2.2.2.2.2.2.1) h9
    rw [← e9]
    have e9 : t_deeds_desks_size = w9 := congrArg (fun z9 => z9.2.2.2.2.2.2.2.2.2.2.1) h9
    rw [← e9]
    have e9 : t_deeds_desks_tree = w10 := congrArg (fun z9 => z9.2.2.2.2.2.2.2.2.2.2.2) h9
    rw [← e9]
    exact k_iretP hx hb hr hlocks hD hP hS rfl dX8_mark_8
  have h := it_n h c2
  refine lv_aload_n hx hb dX8_mark_9 rfl (lv_at hl 0 rfl) ?_
  refine va_get (D := G) (ci := 7) (v := .ref h_t_desk) (C := RX8) (T := TX8) (N := 9) hx hb hts hinX8 hown hK hP 0 rfl rfl 0 (by decide) (hta _ mw_358) (fun _ h9 => h9) rfl dX8_mark_10 ?_
  refine va_get (D := G) (ci := 1) (v := .int t_desk_size) (C := RX1) (T := TX1) (N := 5) hx hb hts hinX1 hown hK hP 1 rfl rfl 1 (by decide) (hta _ mw_394) (fun _ h9 => h9) rfl dX8_mark_13 ?_
  refine lv_bipush (v := (8 : Int32)) hx hb dX8_mark_16 (by decide) ?_
  refine lv_icmp_lt (tgt := 24) hx hb dX8_mark_18 (by decide) (fun c3 => ?_) (fun c3 => ?_)
  rotate_left
  · have h := it_n h c3
    refine lv_bipush (v := (-3 : Int32)) hx hb dX8_mark_21 (by decide) ?_
    have h9 := Option.some.inj h
    have e9 : (-3 : Int32) = r0 := congrArg (fun z9 => z9.1) h9
    rw [← e9]
    have e9 : a_t_desk_powers = w0 := congrArg (fun z9 => z9.2.1) h9
    rw [← e9]
    have e9 : t_desk_size = w1 := congrArg (fun z9 => z9.2.2.1) h9
    rw [← e9]
    have e9 : t_deeds_now = w2 := congrArg (fun z9 => z9.2.2.2.1) h9
    rw [← e9]
    have e9 : t_deeds_last = w3 := congrArg (fun z9 => z9.2.2.2.2.1) h9
    rw [← e9]
    have e9 : a_t_deeds_desks = w4 := congrArg (fun z9 => z9.2.2.2.2.2.1) h9
    rw [← e9]
    have e9 : d_t_deeds_desks = w5 := congrArg (fun z9 => z9.2.2.2.2.2.2.1) h9
    rw [← e9]
    have e9 : t_deeds_desks_genus = w6 := congrArg (fun z9 => z9.2.2.2.2.2.2.2.1) h9
    rw [← e9]
    have e9 : t_deeds_desks_limit = w7 := congrArg (fun z9 => z9.2.2.2.2.2.2.2.2.1) h9
    rw [← e9]
    have e9 : q_t_deeds_desks = w8 := congrArg (fun z9 => z9.2.2.2.2.2.2.2.2.2.1) h9
    rw [← e9]
    have e9 : t_deeds_desks_size = w9 := congrArg (fun z9 => z9.2.2.2.2.2.2.2.2.2.2.1) h9
    rw [← e9]
    have e9 : t_deeds_desks_tree = w10 := congrArg (fun z9 => z9.2.2.2.2.2.2.2.2.2.2.2) h9
    rw [← e9]
    exact k_iretP hx hb hr hlocks hD hP hS rfl dX8_mark_23
  have h := it_p h c3
  refine lv_aload_n hx hb dX8_mark_24 rfl (lv_at hl 0 rfl) ?_
  refine va_get (D := G) (ci := 7) (v := .ref h_t_desk) (C := RX8) (T := TX8) (N := 9) hx hb hts hinX8 hown hK hP 0 rfl rfl 0 (by decide) (hta _ mw_358) (fun _ h9 => h9) rfl dX8_mark_25 ?_
  refine lv_iload_n hx hb dX8_mark_28 rfl (lv_at hl 1 rfl) ?_
  obtain ⟨x4, hx4, h⟩ := bd_e h
  try dsimp only at h
  refine k_VvM (n := 1) (As := [.int p0]) (rest := []) hx hb hml hown hts (c_X1_addMark l G cI cJ cD cH H.size h_t_desk h_t_desk_powers t_desk_genus t_desk_size t_desk_limit t_desk_tree a_t_desk_powers p0 (x4.1) (x4.2) hx4) gX8_mark_X1_addMark rfl rfl rfl (by decide +kernel) ⟨by first | exact Nat.le_of_ble_eq_true rfl | (simp only [headSpec]; omega), by first | exact Nat.le_of_ble_eq_true rfl | (simp only [headSpec]; omega)⟩ hK hP hD hS hA [1, 2] (by decide) rfl rfl (ci := 1) rfl rfl rfl rfl rfl hl.1 (Nat.le_of_ble_eq_true rfl) dX8_mark_29 ⟨Nat.zero_le _, Nat.zero_le _⟩ [(h_t, .inr (7, [.ref h_t_desk, .ref h_t_imageDesk, .ref h_t_deeds, .ref h_t_numbers, .ref h_t_tape, .ref h_t_reader, .ref h_t_speller, .ref h_t_holders, .int t_imageKept])), (h_t_desk, .inr (1, [.int t_desk_genus, .int (x4.2), .ref h_t_desk_powers, .int t_desk_limit, .long t_desk_tree])), (h_t_desk_powers, .inl (cI, 8, .inl (x4.1))), (h_t_deeds, .inr (0, [.ref h_t_deeds_desks, .int t_deeds_now, .int t_deeds_last])), (h_t_deeds_desks, .inl (cD, 9, .inr (.inr (.inr (.inr (fun i => some (d_t_deeds_desks i))))))), ((d_t_deeds_desks 0), .inr (1, [.int (t_deeds_desks_genus 0), .int (t_deeds_desks_size 0), .ref (q_t_deeds_desks 0), .int (t_deeds_desks_limit 0), .long (t_deeds_desks_tree 0)])), ((q_t_deeds_desks 0), .inl (cI, 8, .inl (a_t_deeds_desks 0))), ((d_t_deeds_desks 1), .inr (1, [.int (t_deeds_desks_genus 1), .int (t_deeds_desks_size 1), .ref (q_t_deeds_desks 1), .int (t_deeds_desks_limit 1), .long (t_deeds_desks_tree 1)])), ((q_t_deeds_desks 1), .inl (cI, 8, .inl (a_t_deeds_desks 1))), ((d_t_deeds_desks 2), .inr (1, [.int (t_deeds_desks_genus 2), .int (t_deeds_desks_size 2), .ref (q_t_deeds_desks 2), .int (t_deeds_desks_limit 2), .long (t_deeds_desks_tree 2)])), ((q_t_deeds_desks 2), .inl (cI, 8, .inl (a_t_deeds_desks 2))), ((d_t_deeds_desks 3), .inr (1, [.int (t_deeds_desks_genus 3), .int (t_deeds_desks_size 3), .ref (q_t_deeds_desks 3), .int (t_deeds_desks_limit 3), .long (t_deeds_desks_tree 3)])), ((q_t_deeds_desks 3), .inl (cI, 8, .inl (a_t_deeds_desks 3))), ((d_t_deeds_desks 4), .inr (1, [.int (t_deeds_desks_genus 4), .int (t_deeds_desks_size 4), .ref (q_t_deeds_desks 4), .int (t_deeds_desks_limit 4), .long (t_deeds_desks_tree 4)])), ((q_t_deeds_desks 4), .inl (cI, 8, .inl (a_t_deeds_desks 4))), ((d_t_deeds_desks 5), .inr (1, [.int (t_deeds_desks_genus 5), .int (t_deeds_desks_size 5), .ref (q_t_deeds_desks 5), .int (t_deeds_desks_limit 5), .long (t_deeds_desks_tree 5)])), ((q_t_deeds_desks 5), .inl (cI, 8, .inl (a_t_deeds_desks 5))), ((d_t_deeds_desks 6), .inr (1, [.int (t_deeds_desks_genus 6), .int (t_deeds_desks_size 6), .ref (q_t_deeds_desks 6), .int (t_deeds_desks_limit 6), .long (t_deeds_desks_tree 6)])), ((q_t_deeds_desks 6), .inl (cI, 8, .inl (a_t_deeds_desks 6))), ((d_t_deeds_desks 7), .inr (1, [.int (t_deeds_desks_genus 7), .int (t_deeds_desks_size 7), .ref (q_t_deeds_desks 7), .int (t_deeds_desks_limit 7), .long (t_deeds_desks_tree 7)])), ((q_t_deeds_desks 7), .inl (cI, 8, .inl (a_t_deeds_desks 7))), ((d_t_deeds_desks 8), .inr (1, [.int (t_deeds_desks_genus 8), .int (t_deeds_desks_size 8), .ref (q_t_deeds_desks 8), .int (t_deeds_desks_limit 8), .long (t_deeds_desks_tree 8)])), ((q_t_deeds_desks 8), .inl (cI, 8, .inl (a_t_deeds_desks 8)))] [0, 1, 2, 0, 0, 0, 0, 0, 0, 0, 0, 0, 0, 0, 0, 0, 0, 0, 0, 0, 0, 0, 0] 2 (by decide +kernel) rfl rfl rfl (fun hp4 H locs hP hD hS => ?_)
  refine lv_aload_n hx hb dX8_mark_32 rfl (lv_at hl 0 rfl) ?_
  refine va_get (D := G) (ci := 7) (v := .ref h_t_deeds) (C := RX8) (T := TX8) (N := 9) hx hb hts hinX8 hown hK hP 0 rfl rfl 2 (by decide) (hta _ mw_362) (fun _ h9 => h9) rfl dX8_mark_33 ?_
  refine lv_aload_n hx hb dX8_mark_36 rfl (lv_at hl 0 rfl) ?_
  refine va_get (D := G) (ci := 7) (v := .ref h_t_desk) (C := RX8) (T := TX8) (N := 9) hx hb hts hinX8 hown hK hP 0 rfl rfl 0 (by decide) (hta _ mw_358) (fun _ h9 => h9) rfl dX8_mark_37 ?_
  obtain ⟨x5, hx5, h⟩ := bd_e h
  try dsimp only at h
  refine k_VvPM (n := 1) (As := [.ref h_t_desk]) (rest := []) hx hb hml hown hts (c_X0_settle l G cI cJ cD cH H.size h_t_deeds h_t_desk h_t_deeds_desks h_t_desk_powers d_t_deeds_desks q_t_deeds_desks a_t_deeds_desks t_deeds_desks_genus t_deeds_desks_size t_deeds_desks_limit t_deeds_desks_tree t_deeds_now t_deeds_last t_desk_genus (x4.2) t_desk_limit t_desk_tree (x4.1) (x5.1) (x5.2.1) (x5.2.2.1) (x5.2.2.2.1) (x5.2.2.2.2.1) (x5.2.2.2.2.2.1) (x5.2.2.2.2.2.2.1) (x5.2.2.2.2.2.2.2.1) (x5.2.2.2.2.2.2.2.2) hx5) gX8_mark_X0_settle rfl rfl rfl (by decide +kernel) ⟨by first | exact Nat.le_of_ble_eq_true rfl | (simp only [headSpec]; omega), by first | exact Nat.le_of_ble_eq_true rfl | (simp only [headSpec]; omega)⟩ hK hP hD hS hA [3, 1, 4, 5, 6, 7, 8, 9, 10, 11, 12, 13, 14, 15, 16, 17, 18, 19, 20, 21, 22, 2] (by decide) rfl rfl (ci := 0) rfl rfl rfl rfl rfl hl.1 (Nat.le_of_ble_eq_true rfl) dX8_mark_40 ⟨Nat.zero_le _, Nat.zero_le _⟩ [(h_t, .inr (7, [.ref h_t_desk, .ref h_t_imageDesk, .ref h_t_deeds, .ref h_t_numbers, .ref h_t_tape, .ref h_t_reader, .ref h_t_speller, .ref h_t_holders, .int t_imageKept])), (h_t_desk, .inr (1, [.int t_desk_genus, .int (x4.2), .ref h_t_desk_powers, .int t_desk_limit, .long t_desk_tree])), (h_t_desk_powers, .inl (cI, 8, .inl (x4.1))), (h_t_deeds, .inr (0, [.ref h_t_deeds_desks, .int (x5.1), .int (x5.2.1)])), (h_t_deeds_desks, .inl (cD, 9, .inr (.inr (.inr (.inr (fun i => some ((x5.2.2.2.1) i))))))), (((x5.2.2.2.1) 0), .inr (1, [.int ((x5.2.2.2.2.1) 0), .int ((x5.2.2.2.2.2.2.2.1) 0), .ref ((x5.2.2.2.2.2.2.1) 0), .int ((x5.2.2.2.2.2.1) 0), .long ((x5.2.2.2.2.2.2.2.2) 0)])), (((x5.2.2.2.2.2.2.1) 0), .inl (cI, 8, .inl ((x5.2.2.1) 0))), (((x5.2.2.2.1) 1), .inr (1, [.int ((x5.2.2.2.2.1) 1), .int ((x5.2.2.2.2.2.2.2.1) 1), .ref ((x5.2.2.2.2.2.2.1) 1), .int ((x5.2.2.2.2.2.1) 1), .long ((x5.2.2.2.2.2.2.2.2) 1)])), (((x5.2.2.2.2.2.2.1) 1), .inl (cI, 8, .inl ((x5.2.2.1) 1))), (((x5.2.2.2.1) 2), .inr (1, [.int ((x5.2.2.2.2.1) 2), .int ((x5.2.2.2.2.2.2.2.1) 2), .ref ((x5.2.2.2.2.2.2.1) 2), .int ((x5.2.2.2.2.2.1) 2), .long ((x5.2.2.2.2.2.2.2.2) 2)])), (((x5.2.2.2.2.2.2.1) 2), .inl (cI, 8, .inl ((x5.2.2.1) 2))), (((x5.2.2.2.1) 3), .inr (1, [.int ((x5.2.2.2.2.1) 3), .int ((x5.2.2.2.2.2.2.2.1) 3), .ref ((x5.2.2.2.2.2.2.1) 3), .int ((x5.2.2.2.2.2.1) 3), .long ((x5.2.2.2.2.2.2.2.2) 3)])), (((x5.2.2.2.2.2.2.1) 3), .inl (cI, 8, .inl ((x5.2.2.1) 3))), (((x5.2.2.2.1) 4), .inr (1, [.int ((x5.2.2.2.2.1) 4), .int ((x5.2.2.2.2.2.2.2.1) 4), .ref ((x5.2.2.2.2.2.2.1) 4), .int ((x5.2.2.2.2.2.1) 4), .long ((x5.2.2.2.2.2.2.2.2) 4)])), (((x5.2.2.2.2.2.2.1) 4), .inl (cI, 8, .inl ((x5.2.2.1) 4))), (((x5.2.2.2.1) 5), .inr (1, [.int ((x5.2.2.2.2.1) 5), .int ((x5.2.2.2.2.2.2.2.1) 5), .ref ((x5.2.2.2.2.2.2.1) 5), .int ((x5.2.2.2.2.2.1) 5), .long ((x5.2.2.2.2.2.2.2.2) 5)])), (((x5.2.2.2.2.2.2.1) 5), .inl (cI, 8, .inl ((x5.2.2.1) 5))), (((x5.2.2.2.1) 6), .inr (1, [.int ((x5.2.2.2.2.1) 6), .int ((x5.2.2.2.2.2.2.2.1) 6), .ref ((x5.2.2.2.2.2.2.1) 6), .int ((x5.2.2.2.2.2.1) 6), .long ((x5.2.2.2.2.2.2.2.2) 6)])), (((x5.2.2.2.2.2.2.1) 6), .inl (cI, 8, .inl ((x5.2.2.1) 6))), (((x5.2.2.2.1) 7), .inr (1, [.int ((x5.2.2.2.2.1) 7), .int ((x5.2.2.2.2.2.2.2.1) 7), .ref ((x5.2.2.2.2.2.2.1) 7), .int ((x5.2.2.2.2.2.1) 7), .long ((x5.2.2.2.2.2.2.2.2) 7)])), (((x5.2.2.2.2.2.2.1) 7), .inl (cI, 8, .inl ((x5.2.2.1) 7))), (((x5.2.2.2.1) 8), .inr (1, [.int ((x5.2.2.2.2.1) 8), .int ((x5.2.2.2.2.2.2.2.1) 8), .ref ((x5.2.2.2.2.2.2.1) 8), .int ((x5.2.2.2.2.2.1) 8), .long ((x5.2.2.2.2.2.2.2.2) 8)])), (((x5.2.2.2.2.2.2.1) 8), .inl (cI, 8, .inl ((x5.2.2.1) 8)))] [0, 2, 22, 1, 3, 4, 5, 6, 7, 8, 9, 10, 11, 12, 13, 14, 15, 16, 17, 18, 19, 20, 21] 22 (by decide +kernel) rfl rfl (fun hp5 H locs hP hD hS => ?_)
  refine lv_aload_n hx hb dX8_mark_43 rfl (lv_at hl 0 rfl) ?_
  refine va_get (D := G) (ci := 7) (v := .ref h_t_desk) (C := RX8) (T := TX8) (N := 9) hx hb hts hinX8 hown hK hP 0 rfl rfl 0 (by decide) (hta _ mw_358) (fun _ h9 => h9) rfl dX8_mark_44 ?_
  refine va_get (D := G) (ci := 1) (v := .int (x4.2)) (C := RX1) (T := TX1) (N := 5) hx hb hts hinX1 hown hK hP 1 rfl rfl 1 (by decide) (hta _ mw_394) (fun _ h9 => h9) rfl dX8_mark_47 ?_
  have h9 := Option.some.inj h
  have e9 : (x4.2) = r0 := congrArg (fun z9 => z9.1) h9
  rw [← e9]
  have e9 : (x4.1) = w0 := congrArg (fun z9 => z9.2.1) h9
  rw [← e9]
  have e9 : (x4.2) = w1 := congrArg (fun z9 => z9.2.2.1) h9
  rw [← e9]
  have e9 : (x5.1) = w2 := congrArg (fun z9 => z9.2.2.2.1) h9
  rw [← e9]
  have e9 : (x5.2.1) = w3 := congrArg (fun z9 => z9.2.2.2.2.1) h9
  rw [← e9]
  have e9 : (x5.2.2.1) = w4 := congrArg (fun z9 => z9.2.2.2.2.2.1) h9
  rw [← e9]
  have e9 : (x5.2.2.2.1) = w5 := congrArg (fun z9 => z9.2.2.2.2.2.2.1) h9
  rw [← e9]
  have e9 : (x5.2.2.2.2.1) = w6 := congrArg (fun z9 => z9.2.2.2.2.2.2.2.1) h9
  rw [← e9]
  have e9 : (x5.2.2.2.2.2.1) = w7 := congrArg (fun z9 => z9.2.2.2.2.2.2.2.2.1) h9
  rw [← e9]
  have e9 : (x5.2.2.2.2.2.2.1) = w8 := congrArg (fun z9 => z9.2.2.2.2.2.2.2.2.2.1) h9
  rw [← e9]
  have e9 : (x5.2.2.2.2.2.2.2.1) = w9 := congrArg (fun z9 => z9.2.2.2.2.2.2.2.2.2.2.1) h9
  rw [← e9]
  have e9 : (x5.2.2.2.2.2.2.2.2) = w10 := congrArg (fun z9 => z9.2.2.2.2.2.2.2.2.2.2.2) h9
  rw [← e9]
  exact k_iretP hx hb hr hlocks hD hP hS rfl dX8_mark_50

/-! X8_take -/
set_option maxHeartbeats 40000000 in
set_option maxRecDepth 100000 in
theorem c_X8_take (l : Launch) (G : va_G) (cI cJ cD cH : ClassId) (sz : Nat) (h_t : Nat) (h_t_desk : Nat) (h_t_desk_powers : Nat) (h_t_deeds : Nat) (h_t_deeds_desks : Nat) (h_t_imageDesk : Nat) (h_t_numbers : Nat) (h_t_tape : Nat) (h_t_reader : Nat) (h_t_speller : Nat) (h_t_holders : Nat) (d_t_deeds_desks : Nat → Nat) (q_t_deeds_desks : Nat → Nat) (a_t_deeds_desks : Nat → Nat → Int32) (t_deeds_desks_genus : Nat → Int32) (t_deeds_desks_size : Nat → Int32) (t_deeds_desks_limit : Nat → Int32) (t_deeds_desks_tree : Nat → Int64) (t_imageKept : Int32) (t_desk_genus : Int32) (t_desk_size : Int32) (t_desk_limit : Int32) (t_desk_tree : Int64) (a_t_desk_powers : Nat → Int32) (t_deeds_now : Int32) (t_deeds_last : Int32) (p0 : Int32) (r0 : Int32) (w0 : Nat → Int32) (w1 : Int32) (w2 : Int32) (w3 : Int32) (w4 : Nat → Nat → Int32) (w5 : Nat → Nat) (w6 : Nat → Int32) (w7 : Nat → Int32) (w8 : Nat → Nat) (w9 : Nat → Int32) (w10 : Nat → Int64) (hF : F_X8_take d_t_deeds_desks q_t_deeds_desks a_t_deeds_desks t_deeds_desks_genus t_deeds_desks_size t_deeds_desks_limit t_deeds_desks_tree t_desk_genus t_desk_size t_desk_limit t_desk_tree a_t_desk_powers t_deeds_now t_deeds_last p0 = some (r0, w0, w1, w2, w3, w4, w5, w6, w7, w8, w9, w10)) : Met l yX8_take wsX8_take ({ frames := 4, cells := 0, slots := 0, locals := 86 }) (k_pre G (k_T cI cJ cD cH) [(h_t, .inr (7, [.ref h_t_desk, .ref h_t_imageDesk, .ref h_t_deeds, .ref h_t_numbers, .ref h_t_tape, .ref h_t_reader, .ref h_t_speller, .ref h_t_holders, .int t_imageKept])), (h_t_desk, .inr (1, [.int t_desk_genus, .int t_desk_size, .ref h_t_desk_powers, .int t_desk_limit, .long t_desk_tree])), (h_t_desk_powers, .inl (cI, 8, .inl a_t_desk_powers)), (h_t_deeds, .inr (0, [.ref h_t_deeds_desks, .int t_deeds_now, .int t_deeds_last])), (h_t_deeds_desks, .inl (cD, 9, .inr (.inr (.inr (.inr (fun i => some (d_t_deeds_desks i))))))), ((d_t_deeds_desks 0), .inr (1, [.int (t_deeds_desks_genus 0), .int (t_deeds_desks_size 0), .ref (q_t_deeds_desks 0), .int (t_deeds_desks_limit 0), .long (t_deeds_desks_tree 0)])), ((q_t_deeds_desks 0), .inl (cI, 8, .inl (a_t_deeds_desks 0))), ((d_t_deeds_desks 1), .inr (1, [.int (t_deeds_desks_genus 1), .int (t_deeds_desks_size 1), .ref (q_t_deeds_desks 1), .int (t_deeds_desks_limit 1), .long (t_deeds_desks_tree 1)])), ((q_t_deeds_desks 1), .inl (cI, 8, .inl (a_t_deeds_desks 1))), ((d_t_deeds_desks 2), .inr (1, [.int (t_deeds_desks_genus 2), .int (t_deeds_desks_size 2), .ref (q_t_deeds_desks 2), .int (t_deeds_desks_limit 2), .long (t_deeds_desks_tree 2)])), ((q_t_deeds_desks 2), .inl (cI, 8, .inl (a_t_deeds_desks 2))), ((d_t_deeds_desks 3), .inr (1, [.int (t_deeds_desks_genus 3), .int (t_deeds_desks_size 3), .ref (q_t_deeds_desks 3), .int (t_deeds_desks_limit 3), .long (t_deeds_desks_tree 3)])), ((q_t_deeds_desks 3), .inl (cI, 8, .inl (a_t_deeds_desks 3))), ((d_t_deeds_desks 4), .inr (1, [.int (t_deeds_desks_genus 4), .int (t_deeds_desks_size 4), .ref (q_t_deeds_desks 4), .int (t_deeds_desks_limit 4), .long (t_deeds_desks_tree 4)])), ((q_t_deeds_desks 4), .inl (cI, 8, .inl (a_t_deeds_desks 4))), ((d_t_deeds_desks 5), .inr (1, [.int (t_deeds_desks_genus 5), .int (t_deeds_desks_size 5), .ref (q_t_deeds_desks 5), .int (t_deeds_desks_limit 5), .long (t_deeds_desks_tree 5)])), ((q_t_deeds_desks 5), .inl (cI, 8, .inl (a_t_deeds_desks 5))), ((d_t_deeds_desks 6), .inr (1, [.int (t_deeds_desks_genus 6), .int (t_deeds_desks_size 6), .ref (q_t_deeds_desks 6), .int (t_deeds_desks_limit 6), .long (t_deeds_desks_tree 6)])), ((q_t_deeds_desks 6), .inl (cI, 8, .inl (a_t_deeds_desks 6))), ((d_t_deeds_desks 7), .inr (1, [.int (t_deeds_desks_genus 7), .int (t_deeds_desks_size 7), .ref (q_t_deeds_desks 7), .int (t_deeds_desks_limit 7), .long (t_deeds_desks_tree 7)])), ((q_t_deeds_desks 7), .inl (cI, 8, .inl (a_t_deeds_desks 7))), ((d_t_deeds_desks 8), .inr (1, [.int (t_deeds_desks_genus 8), .int (t_deeds_desks_size 8), .ref (q_t_deeds_desks 8), .int (t_deeds_desks_limit 8), .long (t_deeds_desks_tree 8)])), ((q_t_deeds_desks 8), .inl (cI, 8, .inl (a_t_deeds_desks 8)))] sz [.ref h_t, .int p0]) (va_Qi (fun r (_ : Unit) => r = r0 ∧ True) (fun _ t => va_P G vwCl [(h_t, .inr (7, [.ref h_t_desk, .ref h_t_imageDesk, .ref h_t_deeds, .ref h_t_numbers, .ref h_t_tape, .ref h_t_reader, .ref h_t_speller, .ref h_t_holders, .int t_imageKept])), (h_t_desk, .inr (1, [.int t_desk_genus, .int w1, .ref h_t_desk_powers, .int t_desk_limit, .long t_desk_tree])), (h_t_desk_powers, .inl (cI, 8, .inl w0)), (h_t_deeds, .inr (0, [.ref h_t_deeds_desks, .int w2, .int w3])), (h_t_deeds_desks, .inl (cD, 9, .inr (.inr (.inr (.inr (fun i => some (w5 i))))))), ((w5 0), .inr (1, [.int (w6 0), .int (w9 0), .ref (w8 0), .int (w7 0), .long (w10 0)])), ((w8 0), .inl (cI, 8, .inl (w4 0))), ((w5 1), .inr (1, [.int (w6 1), .int (w9 1), .ref (w8 1), .int (w7 1), .long (w10 1)])), ((w8 1), .inl (cI, 8, .inl (w4 1))), ((w5 2), .inr (1, [.int (w6 2), .int (w9 2), .ref (w8 2), .int (w7 2), .long (w10 2)])), ((w8 2), .inl (cI, 8, .inl (w4 2))), ((w5 3), .inr (1, [.int (w6 3), .int (w9 3), .ref (w8 3), .int (w7 3), .long (w10 3)])), ((w8 3), .inl (cI, 8, .inl (w4 3))), ((w5 4), .inr (1, [.int (w6 4), .int (w9 4), .ref (w8 4), .int (w7 4), .long (w10 4)])), ((w8 4), .inl (cI, 8, .inl (w4 4))), ((w5 5), .inr (1, [.int (w6 5), .int (w9 5), .ref (w8 5), .int (w7 5), .long (w10 5)])), ((w8 5), .inl (cI, 8, .inl (w4 5))), ((w5 6), .inr (1, [.int (w6 6), .int (w9 6), .ref (w8 6), .int (w7 6), .long (w10 6)])), ((w8 6), .inl (cI, 8, .inl (w4 6))), ((w5 7), .inr (1, [.int (w6 7), .int (w9 7), .ref (w8 7), .int (w7 7), .long (w10 7)])), ((w8 7), .inl (cI, 8, .inl (w4 7))), ((w5 8), .inr (1, [.int (w6 8), .int (w9 8), .ref (w8 8), .int (w7 8), .long (w10 8)])), ((w8 8), .inl (cI, 8, .inl (w4 8)))] t.heap ∧ va_D (va_A [(h_t, .inr (7, [.ref h_t_desk, .ref h_t_imageDesk, .ref h_t_deeds, .ref h_t_numbers, .ref h_t_tape, .ref h_t_reader, .ref h_t_speller, .ref h_t_holders, .int t_imageKept])), (h_t_desk, .inr (1, [.int t_desk_genus, .int t_desk_size, .ref h_t_desk_powers, .int t_desk_limit, .long t_desk_tree])), (h_t_desk_powers, .inl (cI, 8, .inl a_t_desk_powers)), (h_t_deeds, .inr (0, [.ref h_t_deeds_desks, .int t_deeds_now, .int t_deeds_last])), (h_t_deeds_desks, .inl (cD, 9, .inr (.inr (.inr (.inr (fun i => some (d_t_deeds_desks i))))))), ((d_t_deeds_desks 0), .inr (1, [.int (t_deeds_desks_genus 0), .int (t_deeds_desks_size 0), .ref (q_t_deeds_desks 0), .int (t_deeds_desks_limit 0), .long (t_deeds_desks_tree 0)])), ((q_t_deeds_desks 0), .inl (cI, 8, .inl (a_t_deeds_desks 0))), ((d_t_deeds_desks 1), .inr (1, [.int (t_deeds_desks_genus 1), .int (t_deeds_desks_size 1), .ref (q_t_deeds_desks 1), .int (t_deeds_desks_limit 1), .long (t_deeds_desks_tree 1)])), ((q_t_deeds_desks 1), .inl (cI, 8, .inl (a_t_deeds_desks 1))), ((d_t_deeds_desks 2), .inr (1, [.int (t_deeds_desks_genus 2), .int (t_deeds_desks_size 2), .ref (q_t_deeds_desks 2), .int (t_deeds_desks_limit 2), .long (t_deeds_desks_tree 2)])), ((q_t_deeds_desks 2), .inl (cI, 8, .inl (a_t_deeds_desks 2))), ((d_t_deeds_desks 3), .inr (1, [.int (t_deeds_desks_genus 3), .int (t_deeds_desks_size 3), .ref (q_t_deeds_desks 3), .int (t_deeds_desks_limit 3), .long (t_deeds_desks_tree 3)])), ((q_t_deeds_desks 3), .inl (cI, 8, .inl (a_t_deeds_desks 3))), ((d_t_deeds_desks 4), .inr (1, [.int (t_deeds_desks_genus 4), .int (t_deeds_desks_size 4), .ref (q_t_deeds_desks 4), .int (t_deeds_desks_limit 4), .long (t_deeds_desks_tree 4)])), ((q_t_deeds_desks 4), .inl (cI, 8, .inl (a_t_deeds_desks 4))), ((d_t_deeds_desks 5), .inr (1, [.int (t_deeds_desks_genus 5), .int (t_deeds_desks_size 5), .ref (q_t_deeds_desks 5), .int (t_deeds_desks_limit 5), .long (t_deeds_desks_tree 5)])), ((q_t_deeds_desks 5), .inl (cI, 8, .inl (a_t_deeds_desks 5))), ((d_t_deeds_desks 6), .inr (1, [.int (t_deeds_desks_genus 6), .int (t_deeds_desks_size 6), .ref (q_t_deeds_desks 6), .int (t_deeds_desks_limit 6), .long (t_deeds_desks_tree 6)])), ((q_t_deeds_desks 6), .inl (cI, 8, .inl (a_t_deeds_desks 6))), ((d_t_deeds_desks 7), .inr (1, [.int (t_deeds_desks_genus 7), .int (t_deeds_desks_size 7), .ref (q_t_deeds_desks 7), .int (t_deeds_desks_limit 7), .long (t_deeds_desks_tree 7)])), ((q_t_deeds_desks 7), .inl (cI, 8, .inl (a_t_deeds_desks 7))), ((d_t_deeds_desks 8), .inr (1, [.int (t_deeds_desks_genus 8), .int (t_deeds_desks_size 8), .ref (q_t_deeds_desks 8), .int (t_deeds_desks_limit 8), .long (t_deeds_desks_tree 8)])), ((q_t_deeds_desks 8), .inl (cI, 8, .inl (a_t_deeds_desks 8)))] sz) [(h_t, .inr (7, [.ref h_t_desk, .ref h_t_imageDesk, .ref h_t_deeds, .ref h_t_numbers, .ref h_t_tape, .ref h_t_reader, .ref h_t_speller, .ref h_t_holders, .int t_imageKept])), (h_t_desk, .inr (1, [.int t_desk_genus, .int w1, .ref h_t_desk_powers, .int t_desk_limit, .long t_desk_tree])), (h_t_desk_powers, .inl (cI, 8, .inl w0)), (h_t_deeds, .inr (0, [.ref h_t_deeds_desks, .int w2, .int w3])), (h_t_deeds_desks, .inl (cD, 9, .inr (.inr (.inr (.inr (fun i => some (w5 i))))))), ((w5 0), .inr (1, [.int (w6 0), .int (w9 0), .ref (w8 0), .int (w7 0), .long (w10 0)])), ((w8 0), .inl (cI, 8, .inl (w4 0))), ((w5 1), .inr (1, [.int (w6 1), .int (w9 1), .ref (w8 1), .int (w7 1), .long (w10 1)])), ((w8 1), .inl (cI, 8, .inl (w4 1))), ((w5 2), .inr (1, [.int (w6 2), .int (w9 2), .ref (w8 2), .int (w7 2), .long (w10 2)])), ((w8 2), .inl (cI, 8, .inl (w4 2))), ((w5 3), .inr (1, [.int (w6 3), .int (w9 3), .ref (w8 3), .int (w7 3), .long (w10 3)])), ((w8 3), .inl (cI, 8, .inl (w4 3))), ((w5 4), .inr (1, [.int (w6 4), .int (w9 4), .ref (w8 4), .int (w7 4), .long (w10 4)])), ((w8 4), .inl (cI, 8, .inl (w4 4))), ((w5 5), .inr (1, [.int (w6 5), .int (w9 5), .ref (w8 5), .int (w7 5), .long (w10 5)])), ((w8 5), .inl (cI, 8, .inl (w4 5))), ((w5 6), .inr (1, [.int (w6 6), .int (w9 6), .ref (w8 6), .int (w7 6), .long (w10 6)])), ((w8 6), .inl (cI, 8, .inl (w4 6))), ((w5 7), .inr (1, [.int (w6 7), .int (w9 7), .ref (w8 7), .int (w7 7), .long (w10 7)])), ((w8 7), .inl (cI, 8, .inl (w4 7))), ((w5 8), .inr (1, [.int (w6 8), .int (w9 8), .ref (w8 8), .int (w7 8), .long (w10 8)])), ((w8 8), .inl (cI, 8, .inl (w4 8)))]) (va_A [(h_t, .inr (7, [.ref h_t_desk, .ref h_t_imageDesk, .ref h_t_deeds, .ref h_t_numbers, .ref h_t_tape, .ref h_t_reader, .ref h_t_speller, .ref h_t_holders, .int t_imageKept])), (h_t_desk, .inr (1, [.int t_desk_genus, .int t_desk_size, .ref h_t_desk_powers, .int t_desk_limit, .long t_desk_tree])), (h_t_desk_powers, .inl (cI, 8, .inl a_t_desk_powers)), (h_t_deeds, .inr (0, [.ref h_t_deeds_desks, .int t_deeds_now, .int t_deeds_last])), (h_t_deeds_desks, .inl (cD, 9, .inr (.inr (.inr (.inr (fun i => some (d_t_deeds_desks i))))))), ((d_t_deeds_desks 0), .inr (1, [.int (t_deeds_desks_genus 0), .int (t_deeds_desks_size 0), .ref (q_t_deeds_desks 0), .int (t_deeds_desks_limit 0), .long (t_deeds_desks_tree 0)])), ((q_t_deeds_desks 0), .inl (cI, 8, .inl (a_t_deeds_desks 0))), ((d_t_deeds_desks 1), .inr (1, [.int (t_deeds_desks_genus 1), .int (t_deeds_desks_size 1), .ref (q_t_deeds_desks 1), .int (t_deeds_desks_limit 1), .long (t_deeds_desks_tree 1)])), ((q_t_deeds_desks 1), .inl (cI, 8, .inl (a_t_deeds_desks 1))), ((d_t_deeds_desks 2), .inr (1, [.int (t_deeds_desks_genus 2), .int (t_deeds_desks_size 2), .ref (q_t_deeds_desks 2), .int (t_deeds_desks_limit 2), .long (t_deeds_desks_tree 2)])), ((q_t_deeds_desks 2), .inl (cI, 8, .inl (a_t_deeds_desks 2))), ((d_t_deeds_desks 3), .inr (1, [.int (t_deeds_desks_genus 3), .int (t_deeds_desks_size 3), .ref (q_t_deeds_desks 3), .int (t_deeds_desks_limit 3), .long (t_deeds_desks_tree 3)])), ((q_t_deeds_desks 3), .inl (cI, 8, .inl (a_t_deeds_desks 3))), ((d_t_deeds_desks 4), .inr (1, [.int (t_deeds_desks_genus 4), .int (t_deeds_desks_size 4), .ref (q_t_deeds_desks 4), .int (t_deeds_desks_limit 4), .long (t_deeds_desks_tree 4)])), ((q_t_deeds_desks 4), .inl (cI, 8, .inl (a_t_deeds_desks 4))), ((d_t_deeds_desks 5), .inr (1, [.int (t_deeds_desks_genus 5), .int (t_deeds_desks_size 5), .ref (q_t_deeds_desks 5), .int (t_deeds_desks_limit 5), .long (t_deeds_desks_tree 5)])), ((q_t_deeds_desks 5), .inl (cI, 8, .inl (a_t_deeds_desks 5))), ((d_t_deeds_desks 6), .inr (1, [.int (t_deeds_desks_genus 6), .int (t_deeds_desks_size 6), .ref (q_t_deeds_desks 6), .int (t_deeds_desks_limit 6), .long (t_deeds_desks_tree 6)])), ((q_t_deeds_desks 6), .inl (cI, 8, .inl (a_t_deeds_desks 6))), ((d_t_deeds_desks 7), .inr (1, [.int (t_deeds_desks_genus 7), .int (t_deeds_desks_size 7), .ref (q_t_deeds_desks 7), .int (t_deeds_desks_limit 7), .long (t_deeds_desks_tree 7)])), ((q_t_deeds_desks 7), .inl (cI, 8, .inl (a_t_deeds_desks 7))), ((d_t_deeds_desks 8), .inr (1, [.int (t_deeds_desks_genus 8), .int (t_deeds_desks_size 8), .ref (q_t_deeds_desks 8), .int (t_deeds_desks_limit 8), .long (t_deeds_desks_tree 8)])), ((q_t_deeds_desks 8), .inl (cI, 8, .inl (a_t_deeds_desks 8)))] sz)) 0 0 (va_A [(h_t, .inr (7, [.ref h_t_desk, .ref h_t_imageDesk, .ref h_t_deeds, .ref h_t_numbers, .ref h_t_tape, .ref h_t_reader, .ref h_t_speller, .ref h_t_holders, .int t_imageKept])), (h_t_desk, .inr (1, [.int t_desk_genus, .int t_desk_size, .ref h_t_desk_powers, .int t_desk_limit, .long t_desk_tree])), (h_t_desk_powers, .inl (cI, 8, .inl a_t_desk_powers)), (h_t_deeds, .inr (0, [.ref h_t_deeds_desks, .int t_deeds_now, .int t_deeds_last])), (h_t_deeds_desks, .inl (cD, 9, .inr (.inr (.inr (.inr (fun i => some (d_t_deeds_desks i))))))), ((d_t_deeds_desks 0), .inr (1, [.int (t_deeds_desks_genus 0), .int (t_deeds_desks_size 0), .ref (q_t_deeds_desks 0), .int (t_deeds_desks_limit 0), .long (t_deeds_desks_tree 0)])), ((q_t_deeds_desks 0), .inl (cI, 8, .inl (a_t_deeds_desks 0))), ((d_t_deeds_desks 1), .inr (1, [.int (t_deeds_desks_genus 1), .int (t_deeds_desks_size 1), .ref (q_t_deeds_desks 1), .int (t_deeds_desks_limit 1), .long (t_deeds_desks_tree 1)])), ((q_t_deeds_desks 1), .inl (cI, 8, .inl (a_t_deeds_desks 1))), ((d_t_deeds_desks 2), .inr (1, [.int (t_deeds_desks_genus 2), .int (t_deeds_desks_size 2), .ref (q_t_deeds_desks 2), .int (t_deeds_desks_limit 2), .long (t_deeds_desks_tree 2)])), ((q_t_deeds_desks 2), .inl (cI, 8, .inl (a_t_deeds_desks 2))), ((d_t_deeds_desks 3), .inr (1, [.int (t_deeds_desks_genus 3), .int (t_deeds_desks_size 3), .ref (q_t_deeds_desks 3), .int (t_deeds_desks_limit 3), .long (t_deeds_desks_tree 3)])), ((q_t_deeds_desks 3), .inl (cI, 8, .inl (a_t_deeds_desks 3))), ((d_t_deeds_desks 4), .inr (1, [.int (t_deeds_desks_genus 4), .int (t_deeds_desks_size 4), .ref (q_t_deeds_desks 4), .int (t_deeds_desks_limit 4), .long (t_deeds_desks_tree 4)])), ((q_t_deeds_desks 4), .inl (cI, 8, .inl (a_t_deeds_desks 4))), ((d_t_deeds_desks 5), .inr (1, [.int (t_deeds_desks_genus 5), .int (t_deeds_desks_size 5), .ref (q_t_deeds_desks 5), .int (t_deeds_desks_limit 5), .long (t_deeds_desks_tree 5)])), ((q_t_deeds_desks 5), .inl (cI, 8, .inl (a_t_deeds_desks 5))), ((d_t_deeds_desks 6), .inr (1, [.int (t_deeds_desks_genus 6), .int (t_deeds_desks_size 6), .ref (q_t_deeds_desks 6), .int (t_deeds_desks_limit 6), .long (t_deeds_desks_tree 6)])), ((q_t_deeds_desks 6), .inl (cI, 8, .inl (a_t_deeds_desks 6))), ((d_t_deeds_desks 7), .inr (1, [.int (t_deeds_desks_genus 7), .int (t_deeds_desks_size 7), .ref (q_t_deeds_desks 7), .int (t_deeds_desks_limit 7), .long (t_deeds_desks_tree 7)])), ((q_t_deeds_desks 7), .inl (cI, 8, .inl (a_t_deeds_desks 7))), ((d_t_deeds_desks 8), .inr (1, [.int (t_deeds_desks_genus 8), .int (t_deeds_desks_size 8), .ref (q_t_deeds_desks 8), .int (t_deeds_desks_limit 8), .long (t_deeds_desks_tree 8)])), ((q_t_deeds_desks 8), .inl (cI, 8, .inl (a_t_deeds_desks 8)))] sz) := by
  refine Met.ofW (cc := cX8_take) (maxL := 2) (ret := (some .int)) (by decide) rfl ?_
  intro p e s m args below meth c s₁ B hml hv
  obtain ⟨rfl, hsz, hP, hK, hD0⟩ := hv
  have hx := B.exec
  have hb := B.bytes
  have hr := B.returns
  have hts := atoms_spec (ws := wsX8_take) B.pre
  have hta : ∀ w ∈ wA, w.before ([.ref h_t, .int p0] : List Value).toArray s = true := hta_of hts
  have hown : s.vm.findClass RX8 = some m.cls := findClass_of_methodNamed B.named
  have hlocks := B.notSynchronized
  subst hsz
  have hD := hD0.self (sz := s.heap.size)
  generalize hAe : va_A [(h_t, .inr (7, [.ref h_t_desk, .ref h_t_imageDesk, .ref h_t_deeds, .ref h_t_numbers, .ref h_t_tape, .ref h_t_reader, .ref h_t_speller, .ref h_t_holders, .int t_imageKept])), (h_t_desk, .inr (1, [.int t_desk_genus, .int t_desk_size, .ref h_t_desk_powers, .int t_desk_limit, .long t_desk_tree])), (h_t_desk_powers, .inl (cI, 8, .inl a_t_desk_powers)), (h_t_deeds, .inr (0, [.ref h_t_deeds_desks, .int t_deeds_now, .int t_deeds_last])), (h_t_deeds_desks, .inl (cD, 9, .inr (.inr (.inr (.inr (fun i => some (d_t_deeds_desks i))))))), ((d_t_deeds_desks 0), .inr (1, [.int (t_deeds_desks_genus 0), .int (t_deeds_desks_size 0), .ref (q_t_deeds_desks 0), .int (t_deeds_desks_limit 0), .long (t_deeds_desks_tree 0)])), ((q_t_deeds_desks 0), .inl (cI, 8, .inl (a_t_deeds_desks 0))), ((d_t_deeds_desks 1), .inr (1, [.int (t_deeds_desks_genus 1), .int (t_deeds_desks_size 1), .ref (q_t_deeds_desks 1), .int (t_deeds_desks_limit 1), .long (t_deeds_desks_tree 1)])), ((q_t_deeds_desks 1), .inl (cI, 8, .inl (a_t_deeds_desks 1))), ((d_t_deeds_desks 2), .inr (1, [.int (t_deeds_desks_genus 2), .int (t_deeds_desks_size 2), .ref (q_t_deeds_desks 2), .int (t_deeds_desks_limit 2), .long (t_deeds_desks_tree 2)])), ((q_t_deeds_desks 2), .inl (cI, 8, .inl (a_t_deeds_desks 2))), ((d_t_deeds_desks 3), .inr (1, [.int (t_deeds_desks_genus 3), .int (t_deeds_desks_size 3), .ref (q_t_deeds_desks 3), .int (t_deeds_desks_limit 3), .long (t_deeds_desks_tree 3)])), ((q_t_deeds_desks 3), .inl (cI, 8, .inl (a_t_deeds_desks 3))), ((d_t_deeds_desks 4), .inr (1, [.int (t_deeds_desks_genus 4), .int (t_deeds_desks_size 4), .ref (q_t_deeds_desks 4), .int (t_deeds_desks_limit 4), .long (t_deeds_desks_tree 4)])), ((q_t_deeds_desks 4), .inl (cI, 8, .inl (a_t_deeds_desks 4))), ((d_t_deeds_desks 5), .inr (1, [.int (t_deeds_desks_genus 5), .int (t_deeds_desks_size 5), .ref (q_t_deeds_desks 5), .int (t_deeds_desks_limit 5), .long (t_deeds_desks_tree 5)])), ((q_t_deeds_desks 5), .inl (cI, 8, .inl (a_t_deeds_desks 5))), ((d_t_deeds_desks 6), .inr (1, [.int (t_deeds_desks_genus 6), .int (t_deeds_desks_size 6), .ref (q_t_deeds_desks 6), .int (t_deeds_desks_limit 6), .long (t_deeds_desks_tree 6)])), ((q_t_deeds_desks 6), .inl (cI, 8, .inl (a_t_deeds_desks 6))), ((d_t_deeds_desks 7), .inr (1, [.int (t_deeds_desks_genus 7), .int (t_deeds_desks_size 7), .ref (q_t_deeds_desks 7), .int (t_deeds_desks_limit 7), .long (t_deeds_desks_tree 7)])), ((q_t_deeds_desks 7), .inl (cI, 8, .inl (a_t_deeds_desks 7))), ((d_t_deeds_desks 8), .inr (1, [.int (t_deeds_desks_genus 8), .int (t_deeds_desks_size 8), .ref (q_t_deeds_desks 8), .int (t_deeds_desks_limit 8), .long (t_deeds_desks_tree 8)])), ((q_t_deeds_desks 8), .inl (cI, 8, .inl (a_t_deeds_desks 8)))] s.heap.size = A at hD ⊢
  have hA : ∀ q : Nat, s.heap.size ≤ q → A q := fun q h => by rw [← hAe]; exact Or.inr h
  have hS : va_S A s.heap s.heap [] := va_S.rf
  have hl := lv_entry ([.ref h_t, .int p0]) (n := 2) (Nat.le_of_ble_eq_true rfl)
  rw [lg_entry_eq]
  generalize (lg_sl ([.ref h_t, .int p0]) ++ List.replicate (2 - (lg_sl ([.ref h_t, .int p0])).length) Slot.unset).toArray = ls at hl ⊢
  have hl : lv_has ls 2 [(0, .ref h_t), (1, .int p0)] := hl
  have hinX1 : ∀ w ∈ wsX10, w ∈ wsX8_take := hin_of in_X1
  have hinX8 : ∀ w ∈ wsX80, w ∈ wsX8_take := hin_of in_X8
  have h := hF
  unfold F_X8_take at h
  refine lv_aload_n hx hb dX8_take_0 rfl (lv_at hl 0 rfl) ?_
  refine va_get (D := G) (ci := 7) (v := .ref h_t_desk) (C := RX8) (T := TX8) (N := 9) hx hb hts hinX8 hown hK hP 0 rfl rfl 0 (by decide) (hta _ mw_358) (fun _ h9 => h9) rfl dX8_take_1 ?_
  refine lv_iload_n hx hb dX8_take_4 rfl (lv_at hl 1 rfl) ?_
  obtain ⟨x1, hx1, h⟩ := bd_e h
  try dsimp only at h
  refine k_ViU (n := 1) (As := [.int p0]) (rest := []) hx hb hml hown hts (c_X1_hasMark l G cI cJ cD cH s.heap.size h_t_desk h_t_desk_powers t_desk_genus t_desk_size t_desk_limit t_desk_tree p0 x1 hx1) gX8_take_X1_hasMark rfl rfl rfl (by decide +kernel) ⟨by first | exact Nat.le_of_ble_eq_true rfl | (simp only [headSpec]; omega), by first | exact Nat.le_of_ble_eq_true rfl | (simp only [headSpec]; omega)⟩ hK hP hD hS hA [1] (by decide) rfl (ci := 1) rfl rfl rfl rfl rfl hl.1 (Nat.le_of_ble_eq_true rfl) dX8_take_5 ⟨Nat.zero_le _, Nat.zero_le _⟩ (fun hp1 H locs hP hS => ?_)
  refine lv_if_ne (tgt := 13) hx hb dX8_take_8 (by decide) (fun c2 => ?_) (fun c2 => ?_)
  rotate_left
  · have h := it_p h c2
    refine lv_iconst (v := (-1 : Int32)) hx hb dX8_take_11 (by decide) ?_
    have h9 := Option.some.inj h
    have e9 : (-1 : Int32) = r0 := congrArg (fun z9 => z9.1) h9
    rw [← e9]
    have e9 : a_t_desk_powers = w0 := congrArg (fun z9 => z9.2.1) h9
    rw [← e9]
    have e9 : t_desk_size = w1 := congrArg (fun z9 => z9.2.2.1) h9
    rw [← e9]
    have e9 : t_deeds_now = w2 := congrArg (fun z9 => z9.2.2.2.1) h9
    rw [← e9]
    have e9 : t_deeds_last = w3 := congrArg (fun z9 => z9.2.2.2.2.1) h9
    rw [← e9]
    have e9 : a_t_deeds_desks = w4 := congrArg (fun z9 => z9.2.2.2.2.2.1) h9
    rw [← e9]
    have e9 : d_t_deeds_desks = w5 := congrArg (fun z9 => z9.2.2.2.2.2.2.1) h9
    rw [← e9]
    have e9 : t_deeds_desks_genus = w6 := congrArg (fun z9 => z9.2.2.2.2.2.2.2.1) h9
    rw [← e9]
    have e9 : t_deeds_desks_limit = w7 := congrArg (fun z9 => z9.2.2.2.2.2.2.2.2.1) h9
    rw [← e9]
    have e9 : q_t_deeds_desks = w8 := congrArg (fun z9 => z9.2.2.2.2.2.2.2.2.2.1) h9
    rw [← e9]
    have e9 : t_deeds_desks_size = w9 := congrArg (fun z9 => z9.2.2.2.2.2.2.2.2.2.2.1) h9
    rw [← e9]
    have e9 : t_deeds_desks_tree = w10 := congrArg (fun z9 => z9.2.2.2.2.2.2.2.2.2.2.2) h9
    rw [← e9]
    exact k_iretP hx hb hr hlocks hD hP hS rfl dX8_take_12
  have h := it_n h c2
  refine lv_aload_n hx hb dX8_take_13 rfl (lv_at hl 0 rfl) ?_
  refine va_get (D := G) (ci := 7) (v := .ref h_t_desk) (C := RX8) (T := TX8) (N := 9) hx hb hts hinX8 hown hK hP 0 rfl rfl 0 (by decide) (hta _ mw_358) (fun _ h9 => h9) rfl dX8_take_14 ?_
  refine lv_iload_n hx hb dX8_take_17 rfl (lv_at hl 1 rfl) ?_
  obtain ⟨x3, hx3, h⟩ := bd_e h
  try dsimp only at h
  refine k_VvM (n := 1) (As := [.int p0]) (rest := []) hx hb hml hown hts (c_X1_dropMark l G cI cJ cD cH H.size h_t_desk h_t_desk_powers t_desk_genus t_desk_size t_desk_limit t_desk_tree a_t_desk_powers p0 (x3.1) (x3.2) hx3) gX8_take_X1_dropMark rfl rfl rfl (by decide +kernel) ⟨by first | exact Nat.le_of_ble_eq_true rfl | (simp only [headSpec]; omega), by first | exact Nat.le_of_ble_eq_true rfl | (simp only [headSpec]; omega)⟩ hK hP hD hS hA [1, 2] (by decide) rfl rfl (ci := 1) rfl rfl rfl rfl rfl hl.1 (Nat.le_of_ble_eq_true rfl) dX8_take_18 ⟨Nat.zero_le _, Nat.zero_le _⟩ [(h_t, .inr (7, [.ref h_t_desk, .ref h_t_imageDesk, .ref h_t_deeds, .ref h_t_numbers, .ref h_t_tape, .ref h_t_reader, .ref h_t_speller, .ref h_t_holders, .int t_imageKept])), (h_t_desk, .inr (1, [.int t_desk_genus, .int (x3.2), .ref h_t_desk_powers, .int t_desk_limit, .long t_desk_tree])), (h_t_desk_powers, .inl (cI, 8, .inl (x3.1))), (h_t_deeds, .inr (0, [.ref h_t_deeds_desks, .int t_deeds_now, .int t_deeds_last])), (h_t_deeds_desks, .inl (cD, 9, .inr (.inr (.inr (.inr (fun i => some (d_t_deeds_desks i))))))), ((d_t_deeds_desks 0), .inr (1, [.int (t_deeds_desks_genus 0), .int (t_deeds_desks_size 0), .ref (q_t_deeds_desks 0), .int (t_deeds_desks_limit 0), .long (t_deeds_desks_tree 0)])), ((q_t_deeds_desks 0), .inl (cI, 8, .inl (a_t_deeds_desks 0))), ((d_t_deeds_desks 1), .inr (1, [.int (t_deeds_desks_genus 1), .int (t_deeds_desks_size 1), .ref (q_t_deeds_desks 1), .int (t_deeds_desks_limit 1), .long (t_deeds_desks_tree 1)])), ((q_t_deeds_desks 1), .inl (cI, 8, .inl (a_t_deeds_desks 1))), ((d_t_deeds_desks 2), .inr (1, [.int (t_deeds_desks_genus 2), .int (t_deeds_desks_size 2), .ref (q_t_deeds_desks 2), .int (t_deeds_desks_limit 2), .long (t_deeds_desks_tree 2)])), ((q_t_deeds_desks 2), .inl (cI, 8, .inl (a_t_deeds_desks 2))), ((d_t_deeds_desks 3), .inr (1, [.int (t_deeds_desks_genus 3), .int (t_deeds_desks_size 3), .ref (q_t_deeds_desks 3), .int (t_deeds_desks_limit 3), .long (t_deeds_desks_tree 3)])), ((q_t_deeds_desks 3), .inl (cI, 8, .inl (a_t_deeds_desks 3))), ((d_t_deeds_desks 4), .inr (1, [.int (t_deeds_desks_genus 4), .int (t_deeds_desks_size 4), .ref (q_t_deeds_desks 4), .int (t_deeds_desks_limit 4), .long (t_deeds_desks_tree 4)])), ((q_t_deeds_desks 4), .inl (cI, 8, .inl (a_t_deeds_desks 4))), ((d_t_deeds_desks 5), .inr (1, [.int (t_deeds_desks_genus 5), .int (t_deeds_desks_size 5), .ref (q_t_deeds_desks 5), .int (t_deeds_desks_limit 5), .long (t_deeds_desks_tree 5)])), ((q_t_deeds_desks 5), .inl (cI, 8, .inl (a_t_deeds_desks 5))), ((d_t_deeds_desks 6), .inr (1, [.int (t_deeds_desks_genus 6), .int (t_deeds_desks_size 6), .ref (q_t_deeds_desks 6), .int (t_deeds_desks_limit 6), .long (t_deeds_desks_tree 6)])), ((q_t_deeds_desks 6), .inl (cI, 8, .inl (a_t_deeds_desks 6))), ((d_t_deeds_desks 7), .inr (1, [.int (t_deeds_desks_genus 7), .int (t_deeds_desks_size 7), .ref (q_t_deeds_desks 7), .int (t_deeds_desks_limit 7), .long (t_deeds_desks_tree 7)])), ((q_t_deeds_desks 7), .inl (cI, 8, .inl (a_t_deeds_desks 7))), ((d_t_deeds_desks 8), .inr (1, [.int (t_deeds_desks_genus 8), .int (t_deeds_desks_size 8), .ref (q_t_deeds_desks 8), .int (t_deeds_desks_limit 8), .long (t_deeds_desks_tree 8)])), ((q_t_deeds_desks 8), .inl (cI, 8, .inl (a_t_deeds_desks 8)))] [0, 1, 2, 0, 0, 0, 0, 0, 0, 0, 0, 0, 0, 0, 0, 0, 0, 0, 0, 0, 0, 0, 0] 2 (by decide +kernel) rfl rfl rfl (fun hp3 H locs hP hD hS => ?_)
  refine lv_aload_n hx hb dX8_take_21 rfl (lv_at hl 0 rfl) ?_
  refine va_get (D := G) (ci := 7) (v := .ref h_t_deeds) (C := RX8) (T := TX8) (N := 9) hx hb hts hinX8 hown hK hP 0 rfl rfl 2 (by decide) (hta _ mw_362) (fun _ h9 => h9) rfl dX8_take_22 ?_
  refine lv_aload_n hx hb dX8_take_25 rfl (lv_at hl 0 rfl) ?_
  refine va_get (D := G) (ci := 7) (v := .ref h_t_desk) (C := RX8) (T := TX8) (N := 9) hx hb hts hinX8 hown hK hP 0 rfl rfl 0 (by decide) (hta _ mw_358) (fun _ h9 => h9) rfl dX8_take_26 ?_
  obtain ⟨x4, hx4, h⟩ := bd_e h
  try dsimp only at h
  refine k_VvPM (n := 1) (As := [.ref h_t_desk]) (rest := []) hx hb hml hown hts (c_X0_settle l G cI cJ cD cH H.size h_t_deeds h_t_desk h_t_deeds_desks h_t_desk_powers d_t_deeds_desks q_t_deeds_desks a_t_deeds_desks t_deeds_desks_genus t_deeds_desks_size t_deeds_desks_limit t_deeds_desks_tree t_deeds_now t_deeds_last t_desk_genus (x3.2) t_desk_limit t_desk_tree (x3.1) (x4.1) (x4.2.1) (x4.2.2.1) (x4.2.2.2.1) (x4.2.2.2.2.1) (x4.2.2.2.2.2.1) (x4.2.2.2.2.2.2.1) (x4.2.2.2.2.2.2.2.1) (x4.2.2.2.2.2.2.2.2) hx4) gX8_take_X0_settle rfl rfl rfl (by decide +kernel) ⟨by first | exact Nat.le_of_ble_eq_true rfl | (simp only [headSpec]; omega), by first | exact Nat.le_of_ble_eq_true rfl | (simp only [headSpec]; omega)⟩ hK hP hD hS hA [3, 1, 4, 5, 6, 7, 8, 9, 10, 11, 12, 13, 14, 15, 16, 17, 18, 19, 20, 21, 22, 2] (by decide) rfl rfl (ci := 0) rfl rfl rfl rfl rfl hl.1 (Nat.le_of_ble_eq_true rfl) dX8_take_29 ⟨Nat.zero_le _, Nat.zero_le _⟩ [(h_t, .inr (7, [.ref h_t_desk, .ref h_t_imageDesk, .ref h_t_deeds, .ref h_t_numbers, .ref h_t_tape, .ref h_t_reader, .ref h_t_speller, .ref h_t_holders, .int t_imageKept])), (h_t_desk, .inr (1, [.int t_desk_genus, .int (x3.2), .ref h_t_desk_powers, .int t_desk_limit, .long t_desk_tree])), (h_t_desk_powers, .inl (cI, 8, .inl (x3.1))), (h_t_deeds, .inr (0, [.ref h_t_deeds_desks, .int (x4.1), .int (x4.2.1)])), (h_t_deeds_desks, .inl (cD, 9, .inr (.inr (.inr (.inr (fun i => some ((x4.2.2.2.1) i))))))), (((x4.2.2.2.1) 0), .inr (1, [.int ((x4.2.2.2.2.1) 0), .int ((x4.2.2.2.2.2.2.2.1) 0), .ref ((x4.2.2.2.2.2.2.1) 0), .int ((x4.2.2.2.2.2.1) 0), .long ((x4.2.2.2.2.2.2.2.2) 0)])), (((x4.2.2.2.2.2.2.1) 0), .inl (cI, 8, .inl ((x4.2.2.1) 0))), (((x4.2.2.2.1) 1), .inr (1, [.int ((x4.2.2.2.2.1) 1), .int ((x4.2.2.2.2.2.2.2.1) 1), .ref ((x4.2.2.2.2.2.2.1) 1), .int ((x4.2.2.2.2.2.1) 1), .long ((x4.2.2.2.2.2.2.2.2) 1)])), (((x4.2.2.2.2.2.2.1) 1), .inl (cI, 8, .inl ((x4.2.2.1) 1))), (((x4.2.2.2.1) 2), .inr (1, [.int ((x4.2.2.2.2.1) 2), .int ((x4.2.2.2.2.2.2.2.1) 2), .ref ((x4.2.2.2.2.2.2.1) 2), .int ((x4.2.2.2.2.2.1) 2), .long ((x4.2.2.2.2.2.2.2.2) 2)])), (((x4.2.2.2.2.2.2.1) 2), .inl (cI, 8, .inl ((x4.2.2.1) 2))), (((x4.2.2.2.1) 3), .inr (1, [.int ((x4.2.2.2.2.1) 3), .int ((x4.2.2.2.2.2.2.2.1) 3), .ref ((x4.2.2.2.2.2.2.1) 3), .int ((x4.2.2.2.2.2.1) 3), .long ((x4.2.2.2.2.2.2.2.2) 3)])), (((x4.2.2.2.2.2.2.1) 3), .inl (cI, 8, .inl ((x4.2.2.1) 3))), (((x4.2.2.2.1) 4), .inr (1, [.int ((x4.2.2.2.2.1) 4), .int ((x4.2.2.2.2.2.2.2.1) 4), .ref ((x4.2.2.2.2.2.2.1) 4), .int ((x4.2.2.2.2.2.1) 4), .long ((x4.2.2.2.2.2.2.2.2) 4)])), (((x4.2.2.2.2.2.2.1) 4), .inl (cI, 8, .inl ((x4.2.2.1) 4))), (((x4.2.2.2.1) 5), .inr (1, [.int ((x4.2.2.2.2.1) 5), .int ((x4.2.2.2.2.2.2.2.1) 5), .ref ((x4.2.2.2.2.2.2.1) 5), .int ((x4.2.2.2.2.2.1) 5), .long ((x4.2.2.2.2.2.2.2.2) 5)])), (((x4.2.2.2.2.2.2.1) 5), .inl (cI, 8, .inl ((x4.2.2.1) 5))), (((x4.2.2.2.1) 6), .inr (1, [.int ((x4.2.2.2.2.1) 6), .int ((x4.2.2.2.2.2.2.2.1) 6), .ref ((x4.2.2.2.2.2.2.1) 6), .int ((x4.2.2.2.2.2.1) 6), .long ((x4.2.2.2.2.2.2.2.2) 6)])), (((x4.2.2.2.2.2.2.1) 6), .inl (cI, 8, .inl ((x4.2.2.1) 6))), (((x4.2.2.2.1) 7), .inr (1, [.int ((x4.2.2.2.2.1) 7), .int ((x4.2.2.2.2.2.2.2.1) 7), .ref ((x4.2.2.2.2.2.2.1) 7), .int ((x4.2.2.2.2.2.1) 7), .long ((x4.2.2.2.2.2.2.2.2) 7)])), (((x4.2.2.2.2.2.2.1) 7), .inl (cI, 8, .inl ((x4.2.2.1) 7))), (((x4.2.2.2.1) 8), .inr (1, [.int ((x4.2.2.2.2.1) 8), .int ((x4.2.2.2.2.2.2.2.1) 8), .ref ((x4.2.2.2.2.2.2.1) 8), .int ((x4.2.2.2.2.2.1) 8), .long ((x4.2.2.2.2.2.2.2.2) 8)])), (((x4.2.2.2.2.2.2.1) 8), .inl (cI, 8, .inl ((x4.2.2.1) 8)))] [0, 2, 22, 1, 3, 4, 5, 6, 7, 8, 9, 10, 11, 12, 13, 14, 15, 16, 17, 18, 19, 20, 21] 22 (by decide +kernel) rfl rfl (fun hp4 H locs hP hD hS => ?_)
  refine lv_aload_n hx hb dX8_take_32 rfl (lv_at hl 0 rfl) ?_
  refine va_get (D := G) (ci := 7) (v := .ref h_t_desk) (C := RX8) (T := TX8) (N := 9) hx hb hts hinX8 hown hK hP 0 rfl rfl 0 (by decide) (hta _ mw_358) (fun _ h9 => h9) rfl dX8_take_33 ?_
  refine va_get (D := G) (ci := 1) (v := .int (x3.2)) (C := RX1) (T := TX1) (N := 5) hx hb hts hinX1 hown hK hP 1 rfl rfl 1 (by decide) (hta _ mw_394) (fun _ h9 => h9) rfl dX8_take_36 ?_
  have h9 := Option.some.inj h
  have e9 : (x3.2) = r0 := congrArg (fun z9 => z9.1) h9
  rw [← e9]
  have e9 : (x3.1) = w0 := congrArg (fun z9 => z9.2.1) h9
  rw [← e9]
  have e9 : (x3.2) = w1 := congrArg (fun z9 => z9.2.2.1) h9
  rw [← e9]
  have e9 : (x4.1) = w2 := congrArg (fun z9 => z9.2.2.2.1) h9
  rw [← e9]
  have e9 : (x4.2.1) = w3 := congrArg (fun z9 => z9.2.2.2.2.1) h9
  rw [← e9]
  have e9 : (x4.2.2.1) = w4 := congrArg (fun z9 => z9.2.2.2.2.2.1) h9
  rw [← e9]
  have e9 : (x4.2.2.2.1) = w5 := congrArg (fun z9 => z9.2.2.2.2.2.2.1) h9
  rw [← e9]
  have e9 : (x4.2.2.2.2.1) = w6 := congrArg (fun z9 => z9.2.2.2.2.2.2.2.1) h9
  rw [← e9]
  have e9 : (x4.2.2.2.2.2.1) = w7 := congrArg (fun z9 => z9.2.2.2.2.2.2.2.2.1) h9
  rw [← e9]
  have e9 : (x4.2.2.2.2.2.2.1) = w8 := congrArg (fun z9 => z9.2.2.2.2.2.2.2.2.2.1) h9
  rw [← e9]
  have e9 : (x4.2.2.2.2.2.2.2.1) = w9 := congrArg (fun z9 => z9.2.2.2.2.2.2.2.2.2.2.1) h9
  rw [← e9]
  have e9 : (x4.2.2.2.2.2.2.2.2) = w10 := congrArg (fun z9 => z9.2.2.2.2.2.2.2.2.2.2.2) h9
  rw [← e9]
  exact k_iretP hx hb hr hlocks hD hP hS rfl dX8_take_39

/-! X8_change -/
set_option maxHeartbeats 40000000 in
set_option maxRecDepth 100000 in
theorem c_X8_change (l : Launch) (G : va_G) (cI cJ cD cH : ClassId) (sz : Nat) (h_t : Nat) (h_t_desk : Nat) (h_t_desk_powers : Nat) (h_t_deeds : Nat) (h_t_deeds_desks : Nat) (h_t_imageDesk : Nat) (h_t_numbers : Nat) (h_t_tape : Nat) (h_t_reader : Nat) (h_t_speller : Nat) (h_t_holders : Nat) (d_t_deeds_desks : Nat → Nat) (q_t_deeds_desks : Nat → Nat) (a_t_deeds_desks : Nat → Nat → Int32) (t_deeds_desks_genus : Nat → Int32) (t_deeds_desks_size : Nat → Int32) (t_deeds_desks_limit : Nat → Int32) (t_deeds_desks_tree : Nat → Int64) (t_imageKept : Int32) (t_desk_genus : Int32) (t_desk_size : Int32) (t_desk_limit : Int32) (t_desk_tree : Int64) (a_t_desk_powers : Nat → Int32) (t_deeds_now : Int32) (t_deeds_last : Int32) (p0 : Int32) (p1 : Int32) (r0 : Int32) (w0 : Nat → Int32) (w1 : Int32) (w2 : Int32) (w3 : Nat → Nat → Int32) (w4 : Nat → Nat) (w5 : Nat → Int32) (w6 : Nat → Int32) (w7 : Nat → Nat) (w8 : Nat → Int32) (w9 : Nat → Int64) (hF : F_X8_change d_t_deeds_desks q_t_deeds_desks a_t_deeds_desks t_deeds_desks_genus t_deeds_desks_size t_deeds_desks_limit t_deeds_desks_tree t_desk_genus t_desk_size t_desk_limit t_desk_tree a_t_desk_powers t_deeds_now t_deeds_last p0 p1 = some (r0, w0, w1, w2, w3, w4, w5, w6, w7, w8, w9)) : Met l yX8_change wsX8_change ({ frames := 4, cells := 0, slots := 0, locals := 86 }) (k_pre G (k_T cI cJ cD cH) [(h_t, .inr (7, [.ref h_t_desk, .ref h_t_imageDesk, .ref h_t_deeds, .ref h_t_numbers, .ref h_t_tape, .ref h_t_reader, .ref h_t_speller, .ref h_t_holders, .int t_imageKept])), (h_t_desk, .inr (1, [.int t_desk_genus, .int t_desk_size, .ref h_t_desk_powers, .int t_desk_limit, .long t_desk_tree])), (h_t_desk_powers, .inl (cI, 8, .inl a_t_desk_powers)), (h_t_deeds, .inr (0, [.ref h_t_deeds_desks, .int t_deeds_now, .int t_deeds_last])), (h_t_deeds_desks, .inl (cD, 9, .inr (.inr (.inr (.inr (fun i => some (d_t_deeds_desks i))))))), ((d_t_deeds_desks 0), .inr (1, [.int (t_deeds_desks_genus 0), .int (t_deeds_desks_size 0), .ref (q_t_deeds_desks 0), .int (t_deeds_desks_limit 0), .long (t_deeds_desks_tree 0)])), ((q_t_deeds_desks 0), .inl (cI, 8, .inl (a_t_deeds_desks 0))), ((d_t_deeds_desks 1), .inr (1, [.int (t_deeds_desks_genus 1), .int (t_deeds_desks_size 1), .ref (q_t_deeds_desks 1), .int (t_deeds_desks_limit 1), .long (t_deeds_desks_tree 1)])), ((q_t_deeds_desks 1), .inl (cI, 8, .inl (a_t_deeds_desks 1))), ((d_t_deeds_desks 2), .inr (1, [.int (t_deeds_desks_genus 2), .int (t_deeds_desks_size 2), .ref (q_t_deeds_desks 2), .int (t_deeds_desks_limit 2), .long (t_deeds_desks_tree 2)])), ((q_t_deeds_desks 2), .inl (cI, 8, .inl (a_t_deeds_desks 2))), ((d_t_deeds_desks 3), .inr (1, [.int (t_deeds_desks_genus 3), .int (t_deeds_desks_size 3), .ref (q_t_deeds_desks 3), .int (t_deeds_desks_limit 3), .long (t_deeds_desks_tree 3)])), ((q_t_deeds_desks 3), .inl (cI, 8, .inl (a_t_deeds_desks 3))), ((d_t_deeds_desks 4), .inr (1, [.int (t_deeds_desks_genus 4), .int (t_deeds_desks_size 4), .ref (q_t_deeds_desks 4), .int (t_deeds_desks_limit 4), .long (t_deeds_desks_tree 4)])), ((q_t_deeds_desks 4), .inl (cI, 8, .inl (a_t_deeds_desks 4))), ((d_t_deeds_desks 5), .inr (1, [.int (t_deeds_desks_genus 5), .int (t_deeds_desks_size 5), .ref (q_t_deeds_desks 5), .int (t_deeds_desks_limit 5), .long (t_deeds_desks_tree 5)])), ((q_t_deeds_desks 5), .inl (cI, 8, .inl (a_t_deeds_desks 5))), ((d_t_deeds_desks 6), .inr (1, [.int (t_deeds_desks_genus 6), .int (t_deeds_desks_size 6), .ref (q_t_deeds_desks 6), .int (t_deeds_desks_limit 6), .long (t_deeds_desks_tree 6)])), ((q_t_deeds_desks 6), .inl (cI, 8, .inl (a_t_deeds_desks 6))), ((d_t_deeds_desks 7), .inr (1, [.int (t_deeds_desks_genus 7), .int (t_deeds_desks_size 7), .ref (q_t_deeds_desks 7), .int (t_deeds_desks_limit 7), .long (t_deeds_desks_tree 7)])), ((q_t_deeds_desks 7), .inl (cI, 8, .inl (a_t_deeds_desks 7))), ((d_t_deeds_desks 8), .inr (1, [.int (t_deeds_desks_genus 8), .int (t_deeds_desks_size 8), .ref (q_t_deeds_desks 8), .int (t_deeds_desks_limit 8), .long (t_deeds_desks_tree 8)])), ((q_t_deeds_desks 8), .inl (cI, 8, .inl (a_t_deeds_desks 8)))] sz [.ref h_t, .int p0, .int p1]) (va_Qi (fun r (_ : Unit) => r = r0 ∧ True) (fun _ t => va_P G vwCl [(h_t, .inr (7, [.ref h_t_desk, .ref h_t_imageDesk, .ref h_t_deeds, .ref h_t_numbers, .ref h_t_tape, .ref h_t_reader, .ref h_t_speller, .ref h_t_holders, .int t_imageKept])), (h_t_desk, .inr (1, [.int t_desk_genus, .int t_desk_size, .ref h_t_desk_powers, .int t_desk_limit, .long t_desk_tree])), (h_t_desk_powers, .inl (cI, 8, .inl w0)), (h_t_deeds, .inr (0, [.ref h_t_deeds_desks, .int w1, .int w2])), (h_t_deeds_desks, .inl (cD, 9, .inr (.inr (.inr (.inr (fun i => some (w4 i))))))), ((w4 0), .inr (1, [.int (w5 0), .int (w8 0), .ref (w7 0), .int (w6 0), .long (w9 0)])), ((w7 0), .inl (cI, 8, .inl (w3 0))), ((w4 1), .inr (1, [.int (w5 1), .int (w8 1), .ref (w7 1), .int (w6 1), .long (w9 1)])), ((w7 1), .inl (cI, 8, .inl (w3 1))), ((w4 2), .inr (1, [.int (w5 2), .int (w8 2), .ref (w7 2), .int (w6 2), .long (w9 2)])), ((w7 2), .inl (cI, 8, .inl (w3 2))), ((w4 3), .inr (1, [.int (w5 3), .int (w8 3), .ref (w7 3), .int (w6 3), .long (w9 3)])), ((w7 3), .inl (cI, 8, .inl (w3 3))), ((w4 4), .inr (1, [.int (w5 4), .int (w8 4), .ref (w7 4), .int (w6 4), .long (w9 4)])), ((w7 4), .inl (cI, 8, .inl (w3 4))), ((w4 5), .inr (1, [.int (w5 5), .int (w8 5), .ref (w7 5), .int (w6 5), .long (w9 5)])), ((w7 5), .inl (cI, 8, .inl (w3 5))), ((w4 6), .inr (1, [.int (w5 6), .int (w8 6), .ref (w7 6), .int (w6 6), .long (w9 6)])), ((w7 6), .inl (cI, 8, .inl (w3 6))), ((w4 7), .inr (1, [.int (w5 7), .int (w8 7), .ref (w7 7), .int (w6 7), .long (w9 7)])), ((w7 7), .inl (cI, 8, .inl (w3 7))), ((w4 8), .inr (1, [.int (w5 8), .int (w8 8), .ref (w7 8), .int (w6 8), .long (w9 8)])), ((w7 8), .inl (cI, 8, .inl (w3 8)))] t.heap ∧ va_D (va_A [(h_t, .inr (7, [.ref h_t_desk, .ref h_t_imageDesk, .ref h_t_deeds, .ref h_t_numbers, .ref h_t_tape, .ref h_t_reader, .ref h_t_speller, .ref h_t_holders, .int t_imageKept])), (h_t_desk, .inr (1, [.int t_desk_genus, .int t_desk_size, .ref h_t_desk_powers, .int t_desk_limit, .long t_desk_tree])), (h_t_desk_powers, .inl (cI, 8, .inl a_t_desk_powers)), (h_t_deeds, .inr (0, [.ref h_t_deeds_desks, .int t_deeds_now, .int t_deeds_last])), (h_t_deeds_desks, .inl (cD, 9, .inr (.inr (.inr (.inr (fun i => some (d_t_deeds_desks i))))))), ((d_t_deeds_desks 0), .inr (1, [.int (t_deeds_desks_genus 0), .int (t_deeds_desks_size 0), .ref (q_t_deeds_desks 0), .int (t_deeds_desks_limit 0), .long (t_deeds_desks_tree 0)])), ((q_t_deeds_desks 0), .inl (cI, 8, .inl (a_t_deeds_desks 0))), ((d_t_deeds_desks 1), .inr (1, [.int (t_deeds_desks_genus 1), .int (t_deeds_desks_size 1), .ref (q_t_deeds_desks 1), .int (t_deeds_desks_limit 1), .long (t_deeds_desks_tree 1)])), ((q_t_deeds_desks 1), .inl (cI, 8, .inl (a_t_deeds_desks 1))), ((d_t_deeds_desks 2), .inr (1, [.int (t_deeds_desks_genus 2), .int (t_deeds_desks_size 2), .ref (q_t_deeds_desks 2), .int (t_deeds_desks_limit 2), .long (t_deeds_desks_tree 2)])), ((q_t_deeds_desks 2), .inl (cI, 8, .inl (a_t_deeds_desks 2))), ((d_t_deeds_desks 3), .inr (1, [.int (t_deeds_desks_genus 3), .int (t_deeds_desks_size 3), .ref (q_t_deeds_desks 3), .int (t_deeds_desks_limit 3), .long (t_deeds_desks_tree 3)])), ((q_t_deeds_desks 3), .inl (cI, 8, .inl (a_t_deeds_desks 3))), ((d_t_deeds_desks 4), .inr (1, [.int (t_deeds_desks_genus 4), .int (t_deeds_desks_size 4), .ref (q_t_deeds_desks 4), .int (t_deeds_desks_limit 4), .long (t_deeds_desks_tree 4)])), ((q_t_deeds_desks 4), .inl (cI, 8, .inl (a_t_deeds_desks 4))), ((d_t_deeds_desks 5), .inr (1, [.int (t_deeds_desks_genus 5), .int (t_deeds_desks_size 5), .ref (q_t_deeds_desks 5), .int (t_deeds_desks_limit 5), .long (t_deeds_desks_tree 5)])), ((q_t_deeds_desks 5), .inl (cI, 8, .inl (a_t_deeds_desks 5))), ((d_t_deeds_desks 6), .inr (1, [.int (t_deeds_desks_genus 6), .int (t_deeds_desks_size 6), .ref (q_t_deeds_desks 6), .int (t_deeds_desks_limit 6), .long (t_deeds_desks_tree 6)])), ((q_t_deeds_desks 6), .inl (cI, 8, .inl (a_t_deeds_desks 6))), ((d_t_deeds_desks 7), .inr (1, [.int (t_deeds_desks_genus 7), .int (t_deeds_desks_size 7), .ref (q_t_deeds_desks 7), .int (t_deeds_desks_limit 7), .long (t_deeds_desks_tree 7)])), ((q_t_deeds_desks 7), .inl (cI, 8, .inl (a_t_deeds_desks 7))), ((d_t_deeds_desks 8), .inr (1, [.int (t_deeds_desks_genus 8), .int (t_deeds_desks_size 8), .ref (q_t_deeds_desks 8), .int (t_deeds_desks_limit 8), .long (t_deeds_desks_tree 8)])), ((q_t_deeds_desks 8), .inl (cI, 8, .inl (a_t_deeds_desks 8)))] sz) [(h_t, .inr (7, [.ref h_t_desk, .ref h_t_imageDesk, .ref h_t_deeds, .ref h_t_numbers, .ref h_t_tape, .ref h_t_reader, .ref h_t_speller, .ref h_t_holders, .int t_imageKept])), (h_t_desk, .inr (1, [.int t_desk_genus, .int t_desk_size, .ref h_t_desk_powers, .int t_desk_limit, .long t_desk_tree])), (h_t_desk_powers, .inl (cI, 8, .inl w0)), (h_t_deeds, .inr (0, [.ref h_t_deeds_desks, .int w1, .int w2])), (h_t_deeds_desks, .inl (cD, 9, .inr (.inr (.inr (.inr (fun i => some (w4 i))))))), ((w4 0), .inr (1, [.int (w5 0), .int (w8 0), .ref (w7 0), .int (w6 0), .long (w9 0)])), ((w7 0), .inl (cI, 8, .inl (w3 0))), ((w4 1), .inr (1, [.int (w5 1), .int (w8 1), .ref (w7 1), .int (w6 1), .long (w9 1)])), ((w7 1), .inl (cI, 8, .inl (w3 1))), ((w4 2), .inr (1, [.int (w5 2), .int (w8 2), .ref (w7 2), .int (w6 2), .long (w9 2)])), ((w7 2), .inl (cI, 8, .inl (w3 2))), ((w4 3), .inr (1, [.int (w5 3), .int (w8 3), .ref (w7 3), .int (w6 3), .long (w9 3)])), ((w7 3), .inl (cI, 8, .inl (w3 3))), ((w4 4), .inr (1, [.int (w5 4), .int (w8 4), .ref (w7 4), .int (w6 4), .long (w9 4)])), ((w7 4), .inl (cI, 8, .inl (w3 4))), ((w4 5), .inr (1, [.int (w5 5), .int (w8 5), .ref (w7 5), .int (w6 5), .long (w9 5)])), ((w7 5), .inl (cI, 8, .inl (w3 5))), ((w4 6), .inr (1, [.int (w5 6), .int (w8 6), .ref (w7 6), .int (w6 6), .long (w9 6)])), ((w7 6), .inl (cI, 8, .inl (w3 6))), ((w4 7), .inr (1, [.int (w5 7), .int (w8 7), .ref (w7 7), .int (w6 7), .long (w9 7)])), ((w7 7), .inl (cI, 8, .inl (w3 7))), ((w4 8), .inr (1, [.int (w5 8), .int (w8 8), .ref (w7 8), .int (w6 8), .long (w9 8)])), ((w7 8), .inl (cI, 8, .inl (w3 8)))]) (va_A [(h_t, .inr (7, [.ref h_t_desk, .ref h_t_imageDesk, .ref h_t_deeds, .ref h_t_numbers, .ref h_t_tape, .ref h_t_reader, .ref h_t_speller, .ref h_t_holders, .int t_imageKept])), (h_t_desk, .inr (1, [.int t_desk_genus, .int t_desk_size, .ref h_t_desk_powers, .int t_desk_limit, .long t_desk_tree])), (h_t_desk_powers, .inl (cI, 8, .inl a_t_desk_powers)), (h_t_deeds, .inr (0, [.ref h_t_deeds_desks, .int t_deeds_now, .int t_deeds_last])), (h_t_deeds_desks, .inl (cD, 9, .inr (.inr (.inr (.inr (fun i => some (d_t_deeds_desks i))))))), ((d_t_deeds_desks 0), .inr (1, [.int (t_deeds_desks_genus 0), .int (t_deeds_desks_size 0), .ref (q_t_deeds_desks 0), .int (t_deeds_desks_limit 0), .long (t_deeds_desks_tree 0)])), ((q_t_deeds_desks 0), .inl (cI, 8, .inl (a_t_deeds_desks 0))), ((d_t_deeds_desks 1), .inr (1, [.int (t_deeds_desks_genus 1), .int (t_deeds_desks_size 1), .ref (q_t_deeds_desks 1), .int (t_deeds_desks_limit 1), .long (t_deeds_desks_tree 1)])), ((q_t_deeds_desks 1), .inl (cI, 8, .inl (a_t_deeds_desks 1))), ((d_t_deeds_desks 2), .inr (1, [.int (t_deeds_desks_genus 2), .int (t_deeds_desks_size 2), .ref (q_t_deeds_desks 2), .int (t_deeds_desks_limit 2), .long (t_deeds_desks_tree 2)])), ((q_t_deeds_desks 2), .inl (cI, 8, .inl (a_t_deeds_desks 2))), ((d_t_deeds_desks 3), .inr (1, [.int (t_deeds_desks_genus 3), .int (t_deeds_desks_size 3), .ref (q_t_deeds_desks 3), .int (t_deeds_desks_limit 3), .long (t_deeds_desks_tree 3)])), ((q_t_deeds_desks 3), .inl (cI, 8, .inl (a_t_deeds_desks 3))), ((d_t_deeds_desks 4), .inr (1, [.int (t_deeds_desks_genus 4), .int (t_deeds_desks_size 4), .ref (q_t_deeds_desks 4), .int (t_deeds_desks_limit 4), .long (t_deeds_desks_tree 4)])), ((q_t_deeds_desks 4), .inl (cI, 8, .inl (a_t_deeds_desks 4))), ((d_t_deeds_desks 5), .inr (1, [.int (t_deeds_desks_genus 5), .int (t_deeds_desks_size 5), .ref (q_t_deeds_desks 5), .int (t_deeds_desks_limit 5), .long (t_deeds_desks_tree 5)])), ((q_t_deeds_desks 5), .inl (cI, 8, .inl (a_t_deeds_desks 5))), ((d_t_deeds_desks 6), .inr (1, [.int (t_deeds_desks_genus 6), .int (t_deeds_desks_size 6), .ref (q_t_deeds_desks 6), .int (t_deeds_desks_limit 6), .long (t_deeds_desks_tree 6)])), ((q_t_deeds_desks 6), .inl (cI, 8, .inl (a_t_deeds_desks 6))), ((d_t_deeds_desks 7), .inr (1, [.int (t_deeds_desks_genus 7), .int (t_deeds_desks_size 7), .ref (q_t_deeds_desks 7), .int (t_deeds_desks_limit 7), .long (t_deeds_desks_tree 7)])), ((q_t_deeds_desks 7), .inl (cI, 8, .inl (a_t_deeds_desks 7))), ((d_t_deeds_desks 8), .inr (1, [.int (t_deeds_desks_genus 8), .int (t_deeds_desks_size 8), .ref (q_t_deeds_desks 8), .int (t_deeds_desks_limit 8), .long (t_deeds_desks_tree 8)])), ((q_t_deeds_desks 8), .inl (cI, 8, .inl (a_t_deeds_desks 8)))] sz)) 0 0 (va_A [(h_t, .inr (7, [.ref h_t_desk, .ref h_t_imageDesk, .ref h_t_deeds, .ref h_t_numbers, .ref h_t_tape, .ref h_t_reader, .ref h_t_speller, .ref h_t_holders, .int t_imageKept])), (h_t_desk, .inr (1, [.int t_desk_genus, .int t_desk_size, .ref h_t_desk_powers, .int t_desk_limit, .long t_desk_tree])), (h_t_desk_powers, .inl (cI, 8, .inl a_t_desk_powers)), (h_t_deeds, .inr (0, [.ref h_t_deeds_desks, .int t_deeds_now, .int t_deeds_last])), (h_t_deeds_desks, .inl (cD, 9, .inr (.inr (.inr (.inr (fun i => some (d_t_deeds_desks i))))))), ((d_t_deeds_desks 0), .inr (1, [.int (t_deeds_desks_genus 0), .int (t_deeds_desks_size 0), .ref (q_t_deeds_desks 0), .int (t_deeds_desks_limit 0), .long (t_deeds_desks_tree 0)])), ((q_t_deeds_desks 0), .inl (cI, 8, .inl (a_t_deeds_desks 0))), ((d_t_deeds_desks 1), .inr (1, [.int (t_deeds_desks_genus 1), .int (t_deeds_desks_size 1), .ref (q_t_deeds_desks 1), .int (t_deeds_desks_limit 1), .long (t_deeds_desks_tree 1)])), ((q_t_deeds_desks 1), .inl (cI, 8, .inl (a_t_deeds_desks 1))), ((d_t_deeds_desks 2), .inr (1, [.int (t_deeds_desks_genus 2), .int (t_deeds_desks_size 2), .ref (q_t_deeds_desks 2), .int (t_deeds_desks_limit 2), .long (t_deeds_desks_tree 2)])), ((q_t_deeds_desks 2), .inl (cI, 8, .inl (a_t_deeds_desks 2))), ((d_t_deeds_desks 3), .inr (1, [.int (t_deeds_desks_genus 3), .int (t_deeds_desks_size 3), .ref (q_t_deeds_desks 3), .int (t_deeds_desks_limit 3), .long (t_deeds_desks_tree 3)])), ((q_t_deeds_desks 3), .inl (cI, 8, .inl (a_t_deeds_desks 3))), ((d_t_deeds_desks 4), .inr (1, [.int (t_deeds_desks_genus 4), .int (t_deeds_desks_size 4), .ref (q_t_deeds_desks 4), .int (t_deeds_desks_limit 4), .long (t_deeds_desks_tree 4)])), ((q_t_deeds_desks 4), .inl (cI, 8, .inl (a_t_deeds_desks 4))), ((d_t_deeds_desks 5), .inr (1, [.int (t_deeds_desks_genus 5), .int (t_deeds_desks_size 5), .ref (q_t_deeds_desks 5), .int (t_deeds_desks_limit 5), .long (t_deeds_desks_tree 5)])), ((q_t_deeds_desks 5), .inl (cI, 8, .inl (a_t_deeds_desks 5))), ((d_t_deeds_desks 6), .inr (1, [.int (t_deeds_desks_genus 6), .int (t_deeds_desks_size 6), .ref (q_t_deeds_desks 6), .int (t_deeds_desks_limit 6), .long (t_deeds_desks_tree 6)])), ((q_t_deeds_desks 6), .inl (cI, 8, .inl (a_t_deeds_desks 6))), ((d_t_deeds_desks 7), .inr (1, [.int (t_deeds_desks_genus 7), .int (t_deeds_desks_size 7), .ref (q_t_deeds_desks 7), .int (t_deeds_desks_limit 7), .long (t_deeds_desks_tree 7)])), ((q_t_deeds_desks 7), .inl (cI, 8, .inl (a_t_deeds_desks 7))), ((d_t_deeds_desks 8), .inr (1, [.int (t_deeds_desks_genus 8), .int (t_deeds_desks_size 8), .ref (q_t_deeds_desks 8), .int (t_deeds_desks_limit 8), .long (t_deeds_desks_tree 8)])), ((q_t_deeds_desks 8), .inl (cI, 8, .inl (a_t_deeds_desks 8)))] sz) := by
  refine Met.ofW (cc := cX8_change) (maxL := 4) (ret := (some .int)) (by decide) rfl ?_
  intro p e s m args below meth c s₁ B hml hv
  obtain ⟨rfl, hsz, hP, hK, hD0⟩ := hv
  have hx := B.exec
  have hb := B.bytes
  have hr := B.returns
  have hts := atoms_spec (ws := wsX8_change) B.pre
  have hta : ∀ w ∈ wA, w.before ([.ref h_t, .int p0, .int p1] : List Value).toArray s = true := hta_of hts
  have hown : s.vm.findClass RX8 = some m.cls := findClass_of_methodNamed B.named
  have hlocks := B.notSynchronized
  subst hsz
  have hD := hD0.self (sz := s.heap.size)
  generalize hAe : va_A [(h_t, .inr (7, [.ref h_t_desk, .ref h_t_imageDesk, .ref h_t_deeds, .ref h_t_numbers, .ref h_t_tape, .ref h_t_reader, .ref h_t_speller, .ref h_t_holders, .int t_imageKept])), (h_t_desk, .inr (1, [.int t_desk_genus, .int t_desk_size, .ref h_t_desk_powers, .int t_desk_limit, .long t_desk_tree])), (h_t_desk_powers, .inl (cI, 8, .inl a_t_desk_powers)), (h_t_deeds, .inr (0, [.ref h_t_deeds_desks, .int t_deeds_now, .int t_deeds_last])), (h_t_deeds_desks, .inl (cD, 9, .inr (.inr (.inr (.inr (fun i => some (d_t_deeds_desks i))))))), ((d_t_deeds_desks 0), .inr (1, [.int (t_deeds_desks_genus 0), .int (t_deeds_desks_size 0), .ref (q_t_deeds_desks 0), .int (t_deeds_desks_limit 0), .long (t_deeds_desks_tree 0)])), ((q_t_deeds_desks 0), .inl (cI, 8, .inl (a_t_deeds_desks 0))), ((d_t_deeds_desks 1), .inr (1, [.int (t_deeds_desks_genus 1), .int (t_deeds_desks_size 1), .ref (q_t_deeds_desks 1), .int (t_deeds_desks_limit 1), .long (t_deeds_desks_tree 1)])), ((q_t_deeds_desks 1), .inl (cI, 8, .inl (a_t_deeds_desks 1))), ((d_t_deeds_desks 2), .inr (1, [.int (t_deeds_desks_genus 2), .int (t_deeds_desks_size 2), .ref (q_t_deeds_desks 2), .int (t_deeds_desks_limit 2), .long (t_deeds_desks_tree 2)])), ((q_t_deeds_desks 2), .inl (cI, 8, .inl (a_t_deeds_desks 2))), ((d_t_deeds_desks 3), .inr (1, [.int (t_deeds_desks_genus 3), .int (t_deeds_desks_size 3), .ref (q_t_deeds_desks 3), .int (t_deeds_desks_limit 3), .long (t_deeds_desks_tree 3)])), ((q_t_deeds_desks 3), .inl (cI, 8, .inl (a_t_deeds_desks 3))), ((d_t_deeds_desks 4), .inr (1, [.int (t_deeds_desks_genus 4), .int (t_deeds_desks_size 4), .ref (q_t_deeds_desks 4), .int (t_deeds_desks_limit 4), .long (t_deeds_desks_tree 4)])), ((q_t_deeds_desks 4), .inl (cI, 8, .inl (a_t_deeds_desks 4))), ((d_t_deeds_desks 5), .inr (1, [.int (t_deeds_desks_genus 5), .int (t_deeds_desks_size 5), .ref (q_t_deeds_desks 5), .int (t_deeds_desks_limit 5), .long (t_deeds_desks_tree 5)])), ((q_t_deeds_desks 5), .inl (cI, 8, .inl (a_t_deeds_desks 5))), ((d_t_deeds_desks 6), .inr (1, [.int (t_deeds_desks_genus 6), .int (t_deeds_desks_size 6), .ref (q_t_deeds_desks 6), .int (t_deeds_desks_limit 6), .long (t_deeds_desks_tree 6)])), ((q_t_deeds_desks 6), .inl (cI, 8, .inl (a_t_deeds_desks 6))), ((d_t_deeds_desks 7), .inr (1, [.int (t_deeds_desks_genus 7), .int (t_deeds_desks_size 7), .ref (q_t_deeds_desks 7), .int (t_deeds_desks_limit 7), .long (t_deeds_desks_tree 7)])), ((q_t_deeds_desks 7), .inl (cI, 8, .inl (a_t_deeds_desks 7))), ((d_t_deeds_desks 8), .inr (1, [.int (t_deeds_desks_genus 8), .int (t_deeds_desks_size 8), .ref (q_t_deeds_desks 8), .int (t_deeds_desks_limit 8), .long (t_deeds_desks_tree 8)])), ((q_t_deeds_desks 8), .inl (cI, 8, .inl (a_t_deeds_desks 8)))] s.heap.size = A at hD ⊢
  have hA : ∀ q : Nat, s.heap.size ≤ q → A q := fun q h => by rw [← hAe]; exact Or.inr h
  have hS : va_S A s.heap s.heap [] := va_S.rf
  have hl := lv_entry ([.ref h_t, .int p0, .int p1]) (n := 4) (Nat.le_of_ble_eq_true rfl)
  rw [lg_entry_eq]
  generalize (lg_sl ([.ref h_t, .int p0, .int p1]) ++ List.replicate (4 - (lg_sl ([.ref h_t, .int p0, .int p1])).length) Slot.unset).toArray = ls at hl ⊢
  have hl : lv_has ls 4 [(0, .ref h_t), (1, .int p0), (2, .int p1)] := hl
  have hinX8 : ∀ w ∈ wsX80, w ∈ wsX8_change := hin_of in_X8
  have h := hF
  unfold F_X8_change at h
  refine lv_aload_n hx hb dX8_change_0 rfl (lv_at hl 0 rfl) ?_
  refine va_get (D := G) (ci := 7) (v := .ref h_t_desk) (C := RX8) (T := TX8) (N := 9) hx hb hts hinX8 hown hK hP 0 rfl rfl 0 (by decide) (hta _ mw_358) (fun _ h9 => h9) rfl dX8_change_1 ?_
  refine lv_iload_n hx hb dX8_change_4 rfl (lv_at hl 1 rfl) ?_
  obtain ⟨x1, hx1, h⟩ := bd_e h
  try dsimp only at h
  refine k_ViU (n := 1) (As := [.int p0]) (rest := []) hx hb hml hown hts (c_X1_hasMark l G cI cJ cD cH s.heap.size h_t_desk h_t_desk_powers t_desk_genus t_desk_size t_desk_limit t_desk_tree p0 x1 hx1) gX8_change_X1_hasMark rfl rfl rfl (by decide +kernel) ⟨by first | exact Nat.le_of_ble_eq_true rfl | (simp only [headSpec]; omega), by first | exact Nat.le_of_ble_eq_true rfl | (simp only [headSpec]; omega)⟩ hK hP hD hS hA [1] (by decide) rfl (ci := 1) rfl rfl rfl rfl rfl hl.1 (Nat.le_of_ble_eq_true rfl) dX8_change_5 ⟨Nat.zero_le _, Nat.zero_le _⟩ (fun hp1 H locs hP hS => ?_)
  refine lv_if_eq (tgt := 18) hx hb dX8_change_8 (by decide) (fun c2 => ?_) (fun c2 => ?_)
  · have h := it_p h c2
    refine lv_iconst (v := (-1 : Int32)) hx hb dX8_change_18 (by decide) ?_
    have h9 := Option.some.inj h
    have e9 : (-1 : Int32) = r0 := congrArg (fun z9 => z9.1) h9
    rw [← e9]
    have e9 : a_t_desk_powers = w0 := congrArg (fun z9 => z9.2.1) h9
    rw [← e9]
    have e9 : t_deeds_now = w1 := congrArg (fun z9 => z9.2.2.1) h9
    rw [← e9]
    have e9 : t_deeds_last = w2 := congrArg (fun z9 => z9.2.2.2.1) h9
    rw [← e9]
    have e9 : a_t_deeds_desks = w3 := congrArg (fun z9 => z9.2.2.2.2.1) h9
    rw [← e9]
    have e9 : d_t_deeds_desks = w4 := congrArg (fun z9 => z9.2.2.2.2.2.1) h9
    rw [← e9]
    have e9 : t_deeds_desks_genus = w5 := congrArg (fun z9 => z9.2.2.2.2.2.2.1) h9
    rw [← e9]
    have e9 : t_deeds_desks_limit = w6 := congrArg (fun z9 => z9.2.2.2.2.2.2.2.1) h9
    rw [← e9]
    have e9 : q_t_deeds_desks = w7 := congrArg (fun z9 => z9.2.2.2.2.2.2.2.2.1) h9
    rw [← e9]
    have e9 : t_deeds_desks_size = w8 := congrArg (fun z9 => z9.2.2.2.2.2.2.2.2.2.1) h9
    rw [← e9]
    have e9 : t_deeds_desks_tree = w9 := congrArg (fun z9 => z9.2.2.2.2.2.2.2.2.2.2) h9
    rw [← e9]
    exact k_iretP hx hb hr hlocks hD hP hS rfl dX8_change_19
  have h := it_n h c2
  refine lv_iload_n hx hb dX8_change_11 rfl (lv_at hl 2 rfl) ?_
  obtain ⟨x3, hx3, h⟩ := bd_e h
  try dsimp only at h
  refine k_SiU (n := 1) (As := [.int p1]) (rest := []) hx hb hml hown hts (c_X8_isPower l G cI cJ cD cH H.size p1 x3 hx3) gX8_change_X8_isPower rfl rfl rfl (by decide +kernel) ⟨by first | exact Nat.le_of_ble_eq_true rfl | (simp only [headSpec]; omega), by first | exact Nat.le_of_ble_eq_true rfl | (simp only [headSpec]; omega)⟩ hK hP hD hS hA [] (by decide) rfl rfl rfl hl.1 (Nat.le_of_ble_eq_true rfl) dX8_change_12 ⟨Nat.zero_le _, Nat.zero_le _⟩ (fun hp3 H locs hP hS => ?_)
  refine lv_if_ne (tgt := 20) hx hb dX8_change_15 (by decide) (fun c4 => ?_) (fun c4 => ?_)
  rotate_left
  · have h := it_p h c4
    refine lv_iconst (v := (-1 : Int32)) hx hb dX8_change_18 (by decide) ?_
    have h9 := Option.some.inj h
    have e9 : (-1 : Int32) = r0 := congrArg (fun z9 => z9.1) h9
    rw [← e9]
    have e9 : a_t_desk_powers = w0 := congrArg (fun z9 => z9.2.1) h9
    rw [← e9]
    have e9 : t_deeds_now = w1 := congrArg (fun z9 => z9.2.2.1) h9
    rw [← e9]
    have e9 : t_deeds_last = w2 := congrArg (fun z9 => z9.2.2.2.1) h9
    rw [← e9]
    have e9 : a_t_deeds_desks = w3 := congrArg (fun z9 => z9.2.2.2.2.1) h9
    rw [← e9]
    have e9 : d_t_deeds_desks = w4 := congrArg (fun z9 => z9.2.2.2.2.2.1) h9
    rw [← e9]
    have e9 : t_deeds_desks_genus = w5 := congrArg (fun z9 => z9.2.2.2.2.2.2.1) h9
    rw [← e9]
    have e9 : t_deeds_desks_limit = w6 := congrArg (fun z9 => z9.2.2.2.2.2.2.2.1) h9
    rw [← e9]
    have e9 : q_t_deeds_desks = w7 := congrArg (fun z9 => z9.2.2.2.2.2.2.2.2.1) h9
    rw [← e9]
    have e9 : t_deeds_desks_size = w8 := congrArg (fun z9 => z9.2.2.2.2.2.2.2.2.2.1) h9
    rw [← e9]
    have e9 : t_deeds_desks_tree = w9 := congrArg (fun z9 => z9.2.2.2.2.2.2.2.2.2.2) h9
    rw [← e9]
    exact k_iretP hx hb hr hlocks hD hP hS rfl dX8_change_19
  have h := it_n h c4
  refine lv_aload_n hx hb dX8_change_20 rfl (lv_at hl 0 rfl) ?_
  refine va_get (D := G) (ci := 7) (v := .ref h_t_desk) (C := RX8) (T := TX8) (N := 9) hx hb hts hinX8 hown hK hP 0 rfl rfl 0 (by decide) (hta _ mw_358) (fun _ h9 => h9) rfl dX8_change_21 ?_
  refine lv_iload_n hx hb dX8_change_24 rfl (lv_at hl 1 rfl) ?_
  obtain ⟨x5, hx5, h⟩ := bd_e h
  try dsimp only at h
  refine k_ViU (n := 1) (As := [.int p0]) (rest := []) hx hb hml hown hts (c_X1_powerAt l G cI cJ cD cH H.size h_t_desk h_t_desk_powers t_desk_genus t_desk_size t_desk_limit t_desk_tree a_t_desk_powers p0 x5 hx5) gX8_change_X1_powerAt rfl rfl rfl (by decide +kernel) ⟨by first | exact Nat.le_of_ble_eq_true rfl | (simp only [headSpec]; omega), by first | exact Nat.le_of_ble_eq_true rfl | (simp only [headSpec]; omega)⟩ hK hP hD hS hA [1, 2] (by decide) rfl (ci := 1) rfl rfl rfl rfl rfl hl.1 (Nat.le_of_ble_eq_true rfl) dX8_change_25 ⟨Nat.zero_le _, Nat.zero_le _⟩ (fun hp5 H locs hP hS => ?_)
  refine lv_istore_n (lv' := [(3, .int x5), (0, .ref h_t), (1, .int p0), (2, .int p1)]) hx hb dX8_change_28 rfl hl (by decide) rfl (fun ls hl => ?_)
  refine lv_aload_n hx hb dX8_change_29 rfl (lv_at hl 1 rfl) ?_
  refine va_get (D := G) (ci := 7) (v := .ref h_t_desk) (C := RX8) (T := TX8) (N := 9) hx hb hts hinX8 hown hK hP 0 rfl rfl 0 (by decide) (hta _ mw_358) (fun _ h9 => h9) rfl dX8_change_30 ?_
  refine lv_iload_n hx hb dX8_change_33 rfl (lv_at hl 2 rfl) ?_
  refine lv_iload_n hx hb dX8_change_34 rfl (lv_at hl 3 rfl) ?_
  obtain ⟨x6, hx6, h⟩ := bd_e h
  try dsimp only at h
  refine k_VvM (n := 2) (As := [.int p0, .int p1]) (rest := []) hx hb hml hown hts (c_X1_setPower l G cI cJ cD cH H.size h_t_desk h_t_desk_powers t_desk_genus t_desk_size t_desk_limit t_desk_tree a_t_desk_powers p0 p1 x6 hx6) gX8_change_X1_setPower rfl rfl rfl (by decide +kernel) ⟨by first | exact Nat.le_of_ble_eq_true rfl | (simp only [headSpec]; omega), by first | exact Nat.le_of_ble_eq_true rfl | (simp only [headSpec]; omega)⟩ hK hP hD hS hA [1, 2] (by decide) rfl rfl (ci := 1) rfl rfl rfl rfl rfl hl.1 (Nat.le_of_ble_eq_true rfl) dX8_change_35 ⟨Nat.zero_le _, Nat.zero_le _⟩ [(h_t, .inr (7, [.ref h_t_desk, .ref h_t_imageDesk, .ref h_t_deeds, .ref h_t_numbers, .ref h_t_tape, .ref h_t_reader, .ref h_t_speller, .ref h_t_holders, .int t_imageKept])), (h_t_desk, .inr (1, [.int t_desk_genus, .int t_desk_size, .ref h_t_desk_powers, .int t_desk_limit, .long t_desk_tree])), (h_t_desk_powers, .inl (cI, 8, .inl x6)), (h_t_deeds, .inr (0, [.ref h_t_deeds_desks, .int t_deeds_now, .int t_deeds_last])), (h_t_deeds_desks, .inl (cD, 9, .inr (.inr (.inr (.inr (fun i => some (d_t_deeds_desks i))))))), ((d_t_deeds_desks 0), .inr (1, [.int (t_deeds_desks_genus 0), .int (t_deeds_desks_size 0), .ref (q_t_deeds_desks 0), .int (t_deeds_desks_limit 0), .long (t_deeds_desks_tree 0)])), ((q_t_deeds_desks 0), .inl (cI, 8, .inl (a_t_deeds_desks 0))), ((d_t_deeds_desks 1), .inr (1, [.int (t_deeds_desks_genus 1), .int (t_deeds_desks_size 1), .ref (q_t_deeds_desks 1), .int (t_deeds_desks_limit 1), .long (t_deeds_desks_tree 1)])), ((q_t_deeds_desks 1), .inl (cI, 8, .inl (a_t_deeds_desks 1))), ((d_t_deeds_desks 2), .inr (1, [.int (t_deeds_desks_genus 2), .int (t_deeds_desks_size 2), .ref (q_t_deeds_desks 2), .int (t_deeds_desks_limit 2), .long (t_deeds_desks_tree 2)])), ((q_t_deeds_desks 2), .inl (cI, 8, .inl (a_t_deeds_desks 2))), ((d_t_deeds_desks 3), .inr (1, [.int (t_deeds_desks_genus 3), .int (t_deeds_desks_size 3), .ref (q_t_deeds_desks 3), .int (t_deeds_desks_limit 3), .long (t_deeds_desks_tree 3)])), ((q_t_deeds_desks 3), .inl (cI, 8, .inl (a_t_deeds_desks 3))), ((d_t_deeds_desks 4), .inr (1, [.int (t_deeds_desks_genus 4), .int (t_deeds_desks_size 4), .ref (q_t_deeds_desks 4), .int (t_deeds_desks_limit 4), .long (t_deeds_desks_tree 4)])), ((q_t_deeds_desks 4), .inl (cI, 8, .inl (a_t_deeds_desks 4))), ((d_t_deeds_desks 5), .inr (1, [.int (t_deeds_desks_genus 5), .int (t_deeds_desks_size 5), .ref (q_t_deeds_desks 5), .int (t_deeds_desks_limit 5), .long (t_deeds_desks_tree 5)])), ((q_t_deeds_desks 5), .inl (cI, 8, .inl (a_t_deeds_desks 5))), ((d_t_deeds_desks 6), .inr (1, [.int (t_deeds_desks_genus 6), .int (t_deeds_desks_size 6), .ref (q_t_deeds_desks 6), .int (t_deeds_desks_limit 6), .long (t_deeds_desks_tree 6)])), ((q_t_deeds_desks 6), .inl (cI, 8, .inl (a_t_deeds_desks 6))), ((d_t_deeds_desks 7), .inr (1, [.int (t_deeds_desks_genus 7), .int (t_deeds_desks_size 7), .ref (q_t_deeds_desks 7), .int (t_deeds_desks_limit 7), .long (t_deeds_desks_tree 7)])), ((q_t_deeds_desks 7), .inl (cI, 8, .inl (a_t_deeds_desks 7))), ((d_t_deeds_desks 8), .inr (1, [.int (t_deeds_desks_genus 8), .int (t_deeds_desks_size 8), .ref (q_t_deeds_desks 8), .int (t_deeds_desks_limit 8), .long (t_deeds_desks_tree 8)])), ((q_t_deeds_desks 8), .inl (cI, 8, .inl (a_t_deeds_desks 8)))] [0, 1, 2, 0, 0, 0, 0, 0, 0, 0, 0, 0, 0, 0, 0, 0, 0, 0, 0, 0, 0, 0, 0] 2 (by decide +kernel) rfl rfl rfl (fun hp6 H locs hP hD hS => ?_)
  refine lv_aload_n hx hb dX8_change_38 rfl (lv_at hl 1 rfl) ?_
  refine va_get (D := G) (ci := 7) (v := .ref h_t_deeds) (C := RX8) (T := TX8) (N := 9) hx hb hts hinX8 hown hK hP 0 rfl rfl 2 (by decide) (hta _ mw_362) (fun _ h9 => h9) rfl dX8_change_39 ?_
  refine lv_aload_n hx hb dX8_change_42 rfl (lv_at hl 1 rfl) ?_
  refine va_get (D := G) (ci := 7) (v := .ref h_t_desk) (C := RX8) (T := TX8) (N := 9) hx hb hts hinX8 hown hK hP 0 rfl rfl 0 (by decide) (hta _ mw_358) (fun _ h9 => h9) rfl dX8_change_43 ?_
  obtain ⟨x7, hx7, h⟩ := bd_e h
  try dsimp only at h
  refine k_VvPM (n := 1) (As := [.ref h_t_desk]) (rest := []) hx hb hml hown hts (c_X0_settle l G cI cJ cD cH H.size h_t_deeds h_t_desk h_t_deeds_desks h_t_desk_powers d_t_deeds_desks q_t_deeds_desks a_t_deeds_desks t_deeds_desks_genus t_deeds_desks_size t_deeds_desks_limit t_deeds_desks_tree t_deeds_now t_deeds_last t_desk_genus t_desk_size t_desk_limit t_desk_tree x6 (x7.1) (x7.2.1) (x7.2.2.1) (x7.2.2.2.1) (x7.2.2.2.2.1) (x7.2.2.2.2.2.1) (x7.2.2.2.2.2.2.1) (x7.2.2.2.2.2.2.2.1) (x7.2.2.2.2.2.2.2.2) hx7) gX8_change_X0_settle rfl rfl rfl (by decide +kernel) ⟨by first | exact Nat.le_of_ble_eq_true rfl | (simp only [headSpec]; omega), by first | exact Nat.le_of_ble_eq_true rfl | (simp only [headSpec]; omega)⟩ hK hP hD hS hA [3, 1, 4, 5, 6, 7, 8, 9, 10, 11, 12, 13, 14, 15, 16, 17, 18, 19, 20, 21, 22, 2] (by decide) rfl rfl (ci := 0) rfl rfl rfl rfl rfl hl.1 (Nat.le_of_ble_eq_true rfl) dX8_change_46 ⟨Nat.zero_le _, Nat.zero_le _⟩ [(h_t, .inr (7, [.ref h_t_desk, .ref h_t_imageDesk, .ref h_t_deeds, .ref h_t_numbers, .ref h_t_tape, .ref h_t_reader, .ref h_t_speller, .ref h_t_holders, .int t_imageKept])), (h_t_desk, .inr (1, [.int t_desk_genus, .int t_desk_size, .ref h_t_desk_powers, .int t_desk_limit, .long t_desk_tree])), (h_t_desk_powers, .inl (cI, 8, .inl x6)), (h_t_deeds, .inr (0, [.ref h_t_deeds_desks, .int (x7.1), .int (x7.2.1)])), (h_t_deeds_desks, .inl (cD, 9, .inr (.inr (.inr (.inr (fun i => some ((x7.2.2.2.1) i))))))), (((x7.2.2.2.1) 0), .inr (1, [.int ((x7.2.2.2.2.1) 0), .int ((x7.2.2.2.2.2.2.2.1) 0), .ref ((x7.2.2.2.2.2.2.1) 0), .int ((x7.2.2.2.2.2.1) 0), .long ((x7.2.2.2.2.2.2.2.2) 0)])), (((x7.2.2.2.2.2.2.1) 0), .inl (cI, 8, .inl ((x7.2.2.1) 0))), (((x7.2.2.2.1) 1), .inr (1, [.int ((x7.2.2.2.2.1) 1), .int ((x7.2.2.2.2.2.2.2.1) 1), .ref ((x7.2.2.2.2.2.2.1) 1), .int ((x7.2.2.2.2.2.1) 1), .long ((x7.2.2.2.2.2.2.2.2) 1)])), (((x7.2.2.2.2.2.2.1) 1), .inl (cI, 8, .inl ((x7.2.2.1) 1))), (((x7.2.2.2.1) 2), .inr (1, [.int ((x7.2.2.2.2.1) 2), .int ((x7.2.2.2.2.2.2.2.1) 2), .ref ((x7.2.2.2.2.2.2.1) 2), .int ((x7.2.2.2.2.2.1) 2), .long ((x7.2.2.2.2.2.2.2.2) 2)])), (((x7.2.2.2.2.2.2.1) 2), .inl (cI, 8, .inl ((x7.2.2.1) 2))), (((x7.2.2.2.1) 3), .inr (1, [.int ((x7.2.2.2.2.1) 3), .int ((x7.2.2.2.2.2.2.2.1) 3), .ref ((x7.2.2.2.2.2.2.1) 3), .int ((x7.2.2.2.2.2.1) 3), .long ((x7.2.2.2.2.2.2.2.2) 3)])), (((x7.2.2.2.2.2.2.1) 3), .inl (cI, 8, .inl ((x7.2.2.1) 3))), (((x7.2.2.2.1) 4), .inr (1, [.int ((x7.2.2.2.2.1) 4), .int ((x7.2.2.2.2.2.2.2.1) 4), .ref ((x7.2.2.2.2.2.2.1) 4), .int ((x7.2.2.2.2.2.1) 4), .long ((x7.2.2.2.2.2.2.2.2) 4)])), (((x7.2.2.2.2.2.2.1) 4), .inl (cI, 8, .inl ((x7.2.2.1) 4))), (((x7.2.2.2.1) 5), .inr (1, [.int ((x7.2.2.2.2.1) 5), .int ((x7.2.2.2.2.2.2.2.1) 5), .ref ((x7.2.2.2.2.2.2.1) 5), .int ((x7.2.2.2.2.2.1) 5), .long ((x7.2.2.2.2.2.2.2.2) 5)])), (((x7.2.2.2.2.2.2.1) 5), .inl (cI, 8, .inl ((x7.2.2.1) 5))), (((x7.2.2.2.1) 6), .inr (1, [.int ((x7.2.2.2.2.1) 6), .int ((x7.2.2.2.2.2.2.2.1) 6), .ref ((x7.2.2.2.2.2.2.1) 6), .int ((x7.2.2.2.2.2.1) 6), .long ((x7.2.2.2.2.2.2.2.2) 6)])), (((x7.2.2.2.2.2.2.1) 6), .inl (cI, 8, .inl ((x7.2.2.1) 6))), (((x7.2.2.2.1) 7), .inr (1, [.int ((x7.2.2.2.2.1) 7), .int ((x7.2.2.2.2.2.2.2.1) 7), .ref ((x7.2.2.2.2.2.2.1) 7), .int ((x7.2.2.2.2.2.1) 7), .long ((x7.2.2.2.2.2.2.2.2) 7)])), (((x7.2.2.2.2.2.2.1) 7), .inl (cI, 8, .inl ((x7.2.2.1) 7))), (((x7.2.2.2.1) 8), .inr (1, [.int ((x7.2.2.2.2.1) 8), .int ((x7.2.2.2.2.2.2.2.1) 8), .ref ((x7.2.2.2.2.2.2.1) 8), .int ((x7.2.2.2.2.2.1) 8), .long ((x7.2.2.2.2.2.2.2.2) 8)])), (((x7.2.2.2.2.2.2.1) 8), .inl (cI, 8, .inl ((x7.2.2.1) 8)))] [0, 2, 22, 1, 3, 4, 5, 6, 7, 8, 9, 10, 11, 12, 13, 14, 15, 16, 17, 18, 19, 20, 21] 22 (by decide +kernel) rfl rfl (fun hp7 H locs hP hD hS => ?_)
  refine lv_iload_n hx hb dX8_change_49 rfl (lv_at hl 0 rfl) ?_
  have h9 := Option.some.inj h
  have e9 : x5 = r0 := congrArg (fun z9 => z9.1) h9
  rw [← e9]
  have e9 : x6 = w0 := congrArg (fun z9 => z9.2.1) h9
  rw [← e9]
  have e9 : (x7.1) = w1 := congrArg (fun z9 => z9.2.2.1) h9
  rw [← e9]
  have e9 : (x7.2.1) = w2 := congrArg (fun z9 => z9.2.2.2.1) h9
  rw [← e9]
  have e9 : (x7.2.2.1) = w3 := congrArg (fun z9 => z9.2.2.2.2.1) h9
  rw [← e9]
  have e9 : (x7.2.2.2.1) = w4 := congrArg (fun z9 => z9.2.2.2.2.2.1) h9
  rw [← e9]
  have e9 : (x7.2.2.2.2.1) = w5 := congrArg (fun z9 => z9.2.2.2.2.2.2.1) h9
  rw [← e9]
  have e9 : (x7.2.2.2.2.2.1) = w6 := congrArg (fun z9 => z9.2.2.2.2.2.2.2.1) h9
  rw [← e9]
  have e9 : (x7.2.2.2.2.2.2.1) = w7 := congrArg (fun z9 => z9.2.2.2.2.2.2.2.2.1) h9
  rw [← e9]
  have e9 : (x7.2.2.2.2.2.2.2.1) = w8 := congrArg (fun z9 => z9.2.2.2.2.2.2.2.2.2.1) h9
  rw [← e9]
  have e9 : (x7.2.2.2.2.2.2.2.2) = w9 := congrArg (fun z9 => z9.2.2.2.2.2.2.2.2.2.2) h9
  rw [← e9]
  exact k_iretP hx hb hr hlocks hD hP hS rfl dX8_change_50

/-! X8_order -/
set_option maxHeartbeats 40000000 in
set_option maxRecDepth 100000 in
theorem tJ_X8_order_71 {l : Launch} {G : va_G} {cI cJ cD cH : ClassId} {h_t : Nat} {h_t_desk : Nat} {h_t_desk_powers : Nat} {h_t_deeds : Nat} {h_t_deeds_desks : Nat} {h_t_imageDesk : Nat} {h_t_numbers : Nat} {h_t_tape : Nat} {h_t_reader : Nat} {h_t_speller : Nat} {h_t_holders : Nat} {d_t_deeds_desks : Nat → Nat} {q_t_deeds_desks : Nat → Nat} {a_t_deeds_desks : Nat → Nat → Int32} {t_deeds_desks_genus : Nat → Int32} {t_deeds_desks_size : Nat → Int32} {t_deeds_desks_limit : Nat → Int32} {t_deeds_desks_tree : Nat → Int64} {t_imageKept : Int32} {t_desk_genus : Int32} {t_desk_size : Int32} {t_desk_limit : Int32} {t_desk_tree : Int64} {t_deeds_now : Int32} {t_deeds_last : Int32} {p0 : Int32} {r0 : Int32} {w0 : Nat → Int32} {w1 : Int32} {w2 : Int32} {w3 : Nat → Nat → Int32} {w4 : Nat → Nat} {w5 : Nat → Int32} {w6 : Nat → Int32} {w7 : Nat → Nat} {w8 : Nat → Int32} {w9 : Nat → Int64} {vJ56_0 : Nat → Int32} {p : Program} {e : Env} {s : State} {m : MethodId} {below : List Frame} {meth : Method} {c : Code} {A : Nat → Prop} (hx : p.tables.exec = Jvm.exec) (hb : c.code = cX8_order) (hr : meth.sig.returnType = (some .int)) (hml : c.maxLocals = 3) (hts : ∀ w ∈ wsX8_order, w.before ([.ref h_t, .int p0] : List Value).toArray s = true) (hown : s.vm.findClass RX8 = some m.cls) (hlocks : meth.locks = false) (hK : va_K G vwCl (k_T cI cJ cD cH) s) (hA : ∀ q : Nat, s.heap.size ≤ q → A q) : ∀  (vJ71_0 : Int32) (H : Heap) (locs : List Loc) (ls : Array Slot), va_P G vwCl [(h_t, .inr (7, [.ref h_t_desk, .ref h_t_imageDesk, .ref h_t_deeds, .ref h_t_numbers, .ref h_t_tape, .ref h_t_reader, .ref h_t_speller, .ref h_t_holders, .int t_imageKept])), (h_t_desk, .inr (1, [.int t_desk_genus, .int t_desk_size, .ref h_t_desk_powers, .int t_desk_limit, .long t_desk_tree])), (h_t_desk_powers, .inl (cI, 8, .inl vJ56_0)), (h_t_deeds, .inr (0, [.ref h_t_deeds_desks, .int t_deeds_now, .int t_deeds_last])), (h_t_deeds_desks, .inl (cD, 9, .inr (.inr (.inr (.inr (fun i => some (d_t_deeds_desks i))))))), ((d_t_deeds_desks 0), .inr (1, [.int (t_deeds_desks_genus 0), .int (t_deeds_desks_size 0), .ref (q_t_deeds_desks 0), .int (t_deeds_desks_limit 0), .long (t_deeds_desks_tree 0)])), ((q_t_deeds_desks 0), .inl (cI, 8, .inl (a_t_deeds_desks 0))), ((d_t_deeds_desks 1), .inr (1, [.int (t_deeds_desks_genus 1), .int (t_deeds_desks_size 1), .ref (q_t_deeds_desks 1), .int (t_deeds_desks_limit 1), .long (t_deeds_desks_tree 1)])), ((q_t_deeds_desks 1), .inl (cI, 8, .inl (a_t_deeds_desks 1))), ((d_t_deeds_desks 2), .inr (1, [.int (t_deeds_desks_genus 2), .int (t_deeds_desks_size 2), .ref (q_t_deeds_desks 2), .int (t_deeds_desks_limit 2), .long (t_deeds_desks_tree 2)])), ((q_t_deeds_desks 2), .inl (cI, 8, .inl (a_t_deeds_desks 2))), ((d_t_deeds_desks 3), .inr (1, [.int (t_deeds_desks_genus 3), .int (t_deeds_desks_size 3), .ref (q_t_deeds_desks 3), .int (t_deeds_desks_limit 3), .long (t_deeds_desks_tree 3)])), ((q_t_deeds_desks 3), .inl (cI, 8, .inl (a_t_deeds_desks 3))), ((d_t_deeds_desks 4), .inr (1, [.int (t_deeds_desks_genus 4), .int (t_deeds_desks_size 4), .ref (q_t_deeds_desks 4), .int (t_deeds_desks_limit 4), .long (t_deeds_desks_tree 4)])), ((q_t_deeds_desks 4), .inl (cI, 8, .inl (a_t_deeds_desks 4))), ((d_t_deeds_desks 5), .inr (1, [.int (t_deeds_desks_genus 5), .int (t_deeds_desks_size 5), .ref (q_t_deeds_desks 5), .int (t_deeds_desks_limit 5), .long (t_deeds_desks_tree 5)])), ((q_t_deeds_desks 5), .inl (cI, 8, .inl (a_t_deeds_desks 5))), ((d_t_deeds_desks 6), .inr (1, [.int (t_deeds_desks_genus 6), .int (t_deeds_desks_size 6), .ref (q_t_deeds_desks 6), .int (t_deeds_desks_limit 6), .long (t_deeds_desks_tree 6)])), ((q_t_deeds_desks 6), .inl (cI, 8, .inl (a_t_deeds_desks 6))), ((d_t_deeds_desks 7), .inr (1, [.int (t_deeds_desks_genus 7), .int (t_deeds_desks_size 7), .ref (q_t_deeds_desks 7), .int (t_deeds_desks_limit 7), .long (t_deeds_desks_tree 7)])), ((q_t_deeds_desks 7), .inl (cI, 8, .inl (a_t_deeds_desks 7))), ((d_t_deeds_desks 8), .inr (1, [.int (t_deeds_desks_genus 8), .int (t_deeds_desks_size 8), .ref (q_t_deeds_desks 8), .int (t_deeds_desks_limit 8), .long (t_deeds_desks_tree 8)])), ((q_t_deeds_desks 8), .inl (cI, 8, .inl (a_t_deeds_desks 8)))] H → va_D A [(h_t, .inr (7, [.ref h_t_desk, .ref h_t_imageDesk, .ref h_t_deeds, .ref h_t_numbers, .ref h_t_tape, .ref h_t_reader, .ref h_t_speller, .ref h_t_holders, .int t_imageKept])), (h_t_desk, .inr (1, [.int t_desk_genus, .int t_desk_size, .ref h_t_desk_powers, .int t_desk_limit, .long t_desk_tree])), (h_t_desk_powers, .inl (cI, 8, .inl vJ56_0)), (h_t_deeds, .inr (0, [.ref h_t_deeds_desks, .int t_deeds_now, .int t_deeds_last])), (h_t_deeds_desks, .inl (cD, 9, .inr (.inr (.inr (.inr (fun i => some (d_t_deeds_desks i))))))), ((d_t_deeds_desks 0), .inr (1, [.int (t_deeds_desks_genus 0), .int (t_deeds_desks_size 0), .ref (q_t_deeds_desks 0), .int (t_deeds_desks_limit 0), .long (t_deeds_desks_tree 0)])), ((q_t_deeds_desks 0), .inl (cI, 8, .inl (a_t_deeds_desks 0))), ((d_t_deeds_desks 1), .inr (1, [.int (t_deeds_desks_genus 1), .int (t_deeds_desks_size 1), .ref (q_t_deeds_desks 1), .int (t_deeds_desks_limit 1), .long (t_deeds_desks_tree 1)])), ((q_t_deeds_desks 1), .inl (cI, 8, .inl (a_t_deeds_desks 1))), ((d_t_deeds_desks 2), .inr (1, [.int (t_deeds_desks_genus 2), .int (t_deeds_desks_size 2), .ref (q_t_deeds_desks 2), .int (t_deeds_desks_limit 2), .long (t_deeds_desks_tree 2)])), ((q_t_deeds_desks 2), .inl (cI, 8, .inl (a_t_deeds_desks 2))), ((d_t_deeds_desks 3), .inr (1, [.int (t_deeds_desks_genus 3), .int (t_deeds_desks_size 3), .ref (q_t_deeds_desks 3), .int (t_deeds_desks_limit 3), .long (t_deeds_desks_tree 3)])), ((q_t_deeds_desks 3), .inl (cI, 8, .inl (a_t_deeds_desks 3))), ((d_t_deeds_desks 4), .inr (1, [.int (t_deeds_desks_genus 4), .int (t_deeds_desks_size 4), .ref (q_t_deeds_desks 4), .int (t_deeds_desks_limit 4), .long (t_deeds_desks_tree 4)])), ((q_t_deeds_desks 4), .inl (cI, 8, .inl (a_t_deeds_desks 4))), ((d_t_deeds_desks 5), .inr (1, [.int (t_deeds_desks_genus 5), .int (t_deeds_desks_size 5), .ref (q_t_deeds_desks 5), .int (t_deeds_desks_limit 5), .long (t_deeds_desks_tree 5)])), ((q_t_deeds_desks 5), .inl (cI, 8, .inl (a_t_deeds_desks 5))), ((d_t_deeds_desks 6), .inr (1, [.int (t_deeds_desks_genus 6), .int (t_deeds_desks_size 6), .ref (q_t_deeds_desks 6), .int (t_deeds_desks_limit 6), .long (t_deeds_desks_tree 6)])), ((q_t_deeds_desks 6), .inl (cI, 8, .inl (a_t_deeds_desks 6))), ((d_t_deeds_desks 7), .inr (1, [.int (t_deeds_desks_genus 7), .int (t_deeds_desks_size 7), .ref (q_t_deeds_desks 7), .int (t_deeds_desks_limit 7), .long (t_deeds_desks_tree 7)])), ((q_t_deeds_desks 7), .inl (cI, 8, .inl (a_t_deeds_desks 7))), ((d_t_deeds_desks 8), .inr (1, [.int (t_deeds_desks_genus 8), .int (t_deeds_desks_size 8), .ref (q_t_deeds_desks 8), .int (t_deeds_desks_limit 8), .long (t_deeds_desks_tree 8)])), ((q_t_deeds_desks 8), .inl (cI, 8, .inl (a_t_deeds_desks 8)))] → va_S A s.heap H locs → lv_has ls 3 [(0, .ref h_t), (2, .int vJ71_0)] → J_X8_order_71 d_t_deeds_desks q_t_deeds_desks a_t_deeds_desks t_deeds_desks_genus t_deeds_desks_size t_deeds_desks_limit t_deeds_desks_tree t_desk_genus t_desk_size t_desk_limit t_desk_tree t_deeds_now t_deeds_last vJ56_0 vJ71_0 = some (r0, w0, w1, w2, w3, w4, w5, w6, w7, w8, w9) → W p l e (headSpec wsX8_order ({ frames := 4, cells := 0, slots := 0, locals := 86 })).room s m ([.ref h_t, .int p0] : List Value).toArray below meth c H locs 0 0 (MQ below (va_Qi (fun r (_ : Unit) => r = r0 ∧ True) (fun _ t => va_P G vwCl [(h_t, .inr (7, [.ref h_t_desk, .ref h_t_imageDesk, .ref h_t_deeds, .ref h_t_numbers, .ref h_t_tape, .ref h_t_reader, .ref h_t_speller, .ref h_t_holders, .int t_imageKept])), (h_t_desk, .inr (1, [.int t_desk_genus, .int t_desk_size, .ref h_t_desk_powers, .int t_desk_limit, .long t_desk_tree])), (h_t_desk_powers, .inl (cI, 8, .inl w0)), (h_t_deeds, .inr (0, [.ref h_t_deeds_desks, .int w1, .int w2])), (h_t_deeds_desks, .inl (cD, 9, .inr (.inr (.inr (.inr (fun i => some (w4 i))))))), ((w4 0), .inr (1, [.int (w5 0), .int (w8 0), .ref (w7 0), .int (w6 0), .long (w9 0)])), ((w7 0), .inl (cI, 8, .inl (w3 0))), ((w4 1), .inr (1, [.int (w5 1), .int (w8 1), .ref (w7 1), .int (w6 1), .long (w9 1)])), ((w7 1), .inl (cI, 8, .inl (w3 1))), ((w4 2), .inr (1, [.int (w5 2), .int (w8 2), .ref (w7 2), .int (w6 2), .long (w9 2)])), ((w7 2), .inl (cI, 8, .inl (w3 2))), ((w4 3), .inr (1, [.int (w5 3), .int (w8 3), .ref (w7 3), .int (w6 3), .long (w9 3)])), ((w7 3), .inl (cI, 8, .inl (w3 3))), ((w4 4), .inr (1, [.int (w5 4), .int (w8 4), .ref (w7 4), .int (w6 4), .long (w9 4)])), ((w7 4), .inl (cI, 8, .inl (w3 4))), ((w4 5), .inr (1, [.int (w5 5), .int (w8 5), .ref (w7 5), .int (w6 5), .long (w9 5)])), ((w7 5), .inl (cI, 8, .inl (w3 5))), ((w4 6), .inr (1, [.int (w5 6), .int (w8 6), .ref (w7 6), .int (w6 6), .long (w9 6)])), ((w7 6), .inl (cI, 8, .inl (w3 6))), ((w4 7), .inr (1, [.int (w5 7), .int (w8 7), .ref (w7 7), .int (w6 7), .long (w9 7)])), ((w7 7), .inl (cI, 8, .inl (w3 7))), ((w4 8), .inr (1, [.int (w5 8), .int (w8 8), .ref (w7 8), .int (w6 8), .long (w9 8)])), ((w7 8), .inl (cI, 8, .inl (w3 8)))] t.heap ∧ va_D A [(h_t, .inr (7, [.ref h_t_desk, .ref h_t_imageDesk, .ref h_t_deeds, .ref h_t_numbers, .ref h_t_tape, .ref h_t_reader, .ref h_t_speller, .ref h_t_holders, .int t_imageKept])), (h_t_desk, .inr (1, [.int t_desk_genus, .int t_desk_size, .ref h_t_desk_powers, .int t_desk_limit, .long t_desk_tree])), (h_t_desk_powers, .inl (cI, 8, .inl w0)), (h_t_deeds, .inr (0, [.ref h_t_deeds_desks, .int w1, .int w2])), (h_t_deeds_desks, .inl (cD, 9, .inr (.inr (.inr (.inr (fun i => some (w4 i))))))), ((w4 0), .inr (1, [.int (w5 0), .int (w8 0), .ref (w7 0), .int (w6 0), .long (w9 0)])), ((w7 0), .inl (cI, 8, .inl (w3 0))), ((w4 1), .inr (1, [.int (w5 1), .int (w8 1), .ref (w7 1), .int (w6 1), .long (w9 1)])), ((w7 1), .inl (cI, 8, .inl (w3 1))), ((w4 2), .inr (1, [.int (w5 2), .int (w8 2), .ref (w7 2), .int (w6 2), .long (w9 2)])), ((w7 2), .inl (cI, 8, .inl (w3 2))), ((w4 3), .inr (1, [.int (w5 3), .int (w8 3), .ref (w7 3), .int (w6 3), .long (w9 3)])), ((w7 3), .inl (cI, 8, .inl (w3 3))), ((w4 4), .inr (1, [.int (w5 4), .int (w8 4), .ref (w7 4), .int (w6 4), .long (w9 4)])), ((w7 4), .inl (cI, 8, .inl (w3 4))), ((w4 5), .inr (1, [.int (w5 5), .int (w8 5), .ref (w7 5), .int (w6 5), .long (w9 5)])), ((w7 5), .inl (cI, 8, .inl (w3 5))), ((w4 6), .inr (1, [.int (w5 6), .int (w8 6), .ref (w7 6), .int (w6 6), .long (w9 6)])), ((w7 6), .inl (cI, 8, .inl (w3 6))), ((w4 7), .inr (1, [.int (w5 7), .int (w8 7), .ref (w7 7), .int (w6 7), .long (w9 7)])), ((w7 7), .inl (cI, 8, .inl (w3 7))), ((w4 8), .inr (1, [.int (w5 8), .int (w8 8), .ref (w7 8), .int (w6 8), .long (w9 8)])), ((w7 8), .inl (cI, 8, .inl (w3 8)))]) A) ([.ref h_t, .int p0] : List Value).toArray s 0 0 A) (F0 m 71 ls []) := by
  have hta : ∀ w ∈ wA, w.before ([.ref h_t, .int p0] : List Value).toArray s = true := hta_of hts
  have hinX8 : ∀ w ∈ wsX80, w ∈ wsX8_order := hin_of in_X8
  intro vJ71_0 H locs ls hP hD hS hl h
  unfold J_X8_order_71 at h
  refine lv_aload_n hx hb dX8_order_71 rfl (lv_at hl 0 rfl) ?_
  refine va_get (D := G) (ci := 7) (v := .ref h_t_deeds) (C := RX8) (T := TX8) (N := 9) hx hb hts hinX8 hown hK hP 0 rfl rfl 2 (by decide) (hta _ mw_362) (fun _ h9 => h9) rfl dX8_order_72 ?_
  refine lv_aload_n hx hb dX8_order_75 rfl (lv_at hl 0 rfl) ?_
  refine va_get (D := G) (ci := 7) (v := .ref h_t_desk) (C := RX8) (T := TX8) (N := 9) hx hb hts hinX8 hown hK hP 0 rfl rfl 0 (by decide) (hta _ mw_358) (fun _ h9 => h9) rfl dX8_order_76 ?_
  obtain ⟨x3, hx3, h⟩ := bd_e h
  try dsimp only at h
  refine k_VvPM (n := 1) (As := [.ref h_t_desk]) (rest := []) hx hb hml hown hts (c_X0_settle l G cI cJ cD cH H.size h_t_deeds h_t_desk h_t_deeds_desks h_t_desk_powers d_t_deeds_desks q_t_deeds_desks a_t_deeds_desks t_deeds_desks_genus t_deeds_desks_size t_deeds_desks_limit t_deeds_desks_tree t_deeds_now t_deeds_last t_desk_genus t_desk_size t_desk_limit t_desk_tree vJ56_0 (x3.1) (x3.2.1) (x3.2.2.1) (x3.2.2.2.1) (x3.2.2.2.2.1) (x3.2.2.2.2.2.1) (x3.2.2.2.2.2.2.1) (x3.2.2.2.2.2.2.2.1) (x3.2.2.2.2.2.2.2.2) hx3) gX8_order_X0_settle rfl rfl rfl (by decide +kernel) ⟨by first | exact Nat.le_of_ble_eq_true rfl | (simp only [headSpec]; omega), by first | exact Nat.le_of_ble_eq_true rfl | (simp only [headSpec]; omega)⟩ hK hP hD hS hA [3, 1, 4, 5, 6, 7, 8, 9, 10, 11, 12, 13, 14, 15, 16, 17, 18, 19, 20, 21, 22, 2] (by decide) rfl rfl (ci := 0) rfl rfl rfl rfl rfl hl.1 (Nat.le_of_ble_eq_true rfl) dX8_order_79 ⟨Nat.zero_le _, Nat.zero_le _⟩ [(h_t, .inr (7, [.ref h_t_desk, .ref h_t_imageDesk, .ref h_t_deeds, .ref h_t_numbers, .ref h_t_tape, .ref h_t_reader, .ref h_t_speller, .ref h_t_holders, .int t_imageKept])), (h_t_desk, .inr (1, [.int t_desk_genus, .int t_desk_size, .ref h_t_desk_powers, .int t_desk_limit, .long t_desk_tree])), (h_t_desk_powers, .inl (cI, 8, .inl vJ56_0)), (h_t_deeds, .inr (0, [.ref h_t_deeds_desks, .int (x3.1), .int (x3.2.1)])), (h_t_deeds_desks, .inl (cD, 9, .inr (.inr (.inr (.inr (fun i => some ((x3.2.2.2.1) i))))))), (((x3.2.2.2.1) 0), .inr (1, [.int ((x3.2.2.2.2.1) 0), .int ((x3.2.2.2.2.2.2.2.1) 0), .ref ((x3.2.2.2.2.2.2.1) 0), .int ((x3.2.2.2.2.2.1) 0), .long ((x3.2.2.2.2.2.2.2.2) 0)])), (((x3.2.2.2.2.2.2.1) 0), .inl (cI, 8, .inl ((x3.2.2.1) 0))), (((x3.2.2.2.1) 1), .inr (1, [.int ((x3.2.2.2.2.1) 1), .int ((x3.2.2.2.2.2.2.2.1) 1), .ref ((x3.2.2.2.2.2.2.1) 1), .int ((x3.2.2.2.2.2.1) 1), .long ((x3.2.2.2.2.2.2.2.2) 1)])), (((x3.2.2.2.2.2.2.1) 1), .inl (cI, 8, .inl ((x3.2.2.1) 1))), (((x3.2.2.2.1) 2), .inr (1, [.int ((x3.2.2.2.2.1) 2), .int ((x3.2.2.2.2.2.2.2.1) 2), .ref ((x3.2.2.2.2.2.2.1) 2), .int ((x3.2.2.2.2.2.1) 2), .long ((x3.2.2.2.2.2.2.2.2) 2)])), (((x3.2.2.2.2.2.2.1) 2), .inl (cI, 8, .inl ((x3.2.2.1) 2))), (((x3.2.2.2.1) 3), .inr (1, [.int ((x3.2.2.2.2.1) 3), .int ((x3.2.2.2.2.2.2.2.1) 3), .ref ((x3.2.2.2.2.2.2.1) 3), .int ((x3.2.2.2.2.2.1) 3), .long ((x3.2.2.2.2.2.2.2.2) 3)])), (((x3.2.2.2.2.2.2.1) 3), .inl (cI, 8, .inl ((x3.2.2.1) 3))), (((x3.2.2.2.1) 4), .inr (1, [.int ((x3.2.2.2.2.1) 4), .int ((x3.2.2.2.2.2.2.2.1) 4), .ref ((x3.2.2.2.2.2.2.1) 4), .int ((x3.2.2.2.2.2.1) 4), .long ((x3.2.2.2.2.2.2.2.2) 4)])), (((x3.2.2.2.2.2.2.1) 4), .inl (cI, 8, .inl ((x3.2.2.1) 4))), (((x3.2.2.2.1) 5), .inr (1, [.int ((x3.2.2.2.2.1) 5), .int ((x3.2.2.2.2.2.2.2.1) 5), .ref ((x3.2.2.2.2.2.2.1) 5), .int ((x3.2.2.2.2.2.1) 5), .long ((x3.2.2.2.2.2.2.2.2) 5)])), (((x3.2.2.2.2.2.2.1) 5), .inl (cI, 8, .inl ((x3.2.2.1) 5))), (((x3.2.2.2.1) 6), .inr (1, [.int ((x3.2.2.2.2.1) 6), .int ((x3.2.2.2.2.2.2.2.1) 6), .ref ((x3.2.2.2.2.2.2.1) 6), .int ((x3.2.2.2.2.2.1) 6), .long ((x3.2.2.2.2.2.2.2.2) 6)])), (((x3.2.2.2.2.2.2.1) 6), .inl (cI, 8, .inl ((x3.2.2.1) 6))), (((x3.2.2.2.1) 7), .inr (1, [.int ((x3.2.2.2.2.1) 7), .int ((x3.2.2.2.2.2.2.2.1) 7), .ref ((x3.2.2.2.2.2.2.1) 7), .int ((x3.2.2.2.2.2.1) 7), .long ((x3.2.2.2.2.2.2.2.2) 7)])), (((x3.2.2.2.2.2.2.1) 7), .inl (cI, 8, .inl ((x3.2.2.1) 7))), (((x3.2.2.2.1) 8), .inr (1, [.int ((x3.2.2.2.2.1) 8), .int ((x3.2.2.2.2.2.2.2.1) 8), .ref ((x3.2.2.2.2.2.2.1) 8), .int ((x3.2.2.2.2.2.1) 8), .long ((x3.2.2.2.2.2.2.2.2) 8)])), (((x3.2.2.2.2.2.2.1) 8), .inl (cI, 8, .inl ((x3.2.2.1) 8)))] [0, 2, 22, 1, 3, 4, 5, 6, 7, 8, 9, 10, 11, 12, 13, 14, 15, 16, 17, 18, 19, 20, 21] 22 (by decide +kernel) rfl rfl (fun hp3 H locs hP hD hS => ?_)
  refine lv_iload_n hx hb dX8_order_82 rfl (lv_at hl 1 rfl) ?_
  have h9 := Option.some.inj h
  have e9 : vJ71_0 = r0 := congrArg (fun z9 => z9.1) h9
  rw [← e9]
  have e9 : vJ56_0 = w0 := congrArg (fun z9 => z9.2.1) h9
  rw [← e9]
  have e9 : (x3.1) = w1 := congrArg (fun z9 => z9.2.2.1) h9
  rw [← e9]
  have e9 : (x3.2.1) = w2 := congrArg (fun z9 => z9.2.2.2.1) h9
  rw [← e9]
  have e9 : (x3.2.2.1) = w3 := congrArg (fun z9 => z9.2.2.2.2.1) h9
  rw [← e9]
  have e9 : (x3.2.2.2.1) = w4 := congrArg (fun z9 => z9.2.2.2.2.2.1) h9
  rw [← e9]
  have e9 : (x3.2.2.2.2.1) = w5 := congrArg (fun z9 => z9.2.2.2.2.2.2.1) h9
  rw [← e9]
  have e9 : (x3.2.2.2.2.2.1) = w6 := congrArg (fun z9 => z9.2.2.2.2.2.2.2.1) h9
  rw [← e9]
  have e9 : (x3.2.2.2.2.2.2.1) = w7 := congrArg (fun z9 => z9.2.2.2.2.2.2.2.2.1) h9
  rw [← e9]
  have e9 : (x3.2.2.2.2.2.2.2.1) = w8 := congrArg (fun z9 => z9.2.2.2.2.2.2.2.2.2.1) h9
  rw [← e9]
  have e9 : (x3.2.2.2.2.2.2.2.2) = w9 := congrArg (fun z9 => z9.2.2.2.2.2.2.2.2.2.2) h9
  rw [← e9]
  exact k_iretP hx hb hr hlocks hD hP hS rfl dX8_order_83
set_option maxHeartbeats 40000000 in
set_option maxRecDepth 100000 in
theorem tJ_X8_order_56 {l : Launch} {G : va_G} {cI cJ cD cH : ClassId} {h_t : Nat} {h_t_desk : Nat} {h_t_desk_powers : Nat} {h_t_deeds : Nat} {h_t_deeds_desks : Nat} {h_t_imageDesk : Nat} {h_t_numbers : Nat} {h_t_tape : Nat} {h_t_reader : Nat} {h_t_speller : Nat} {h_t_holders : Nat} {d_t_deeds_desks : Nat → Nat} {q_t_deeds_desks : Nat → Nat} {a_t_deeds_desks : Nat → Nat → Int32} {t_deeds_desks_genus : Nat → Int32} {t_deeds_desks_size : Nat → Int32} {t_deeds_desks_limit : Nat → Int32} {t_deeds_desks_tree : Nat → Int64} {t_imageKept : Int32} {t_desk_genus : Int32} {t_desk_size : Int32} {t_desk_limit : Int32} {t_desk_tree : Int64} {t_deeds_now : Int32} {t_deeds_last : Int32} {p0 : Int32} {r0 : Int32} {w0 : Nat → Int32} {w1 : Int32} {w2 : Int32} {w3 : Nat → Nat → Int32} {w4 : Nat → Nat} {w5 : Nat → Int32} {w6 : Nat → Int32} {w7 : Nat → Nat} {w8 : Nat → Int32} {w9 : Nat → Int64} {p : Program} {e : Env} {s : State} {m : MethodId} {below : List Frame} {meth : Method} {c : Code} {A : Nat → Prop} (hx : p.tables.exec = Jvm.exec) (hb : c.code = cX8_order) (hr : meth.sig.returnType = (some .int)) (hml : c.maxLocals = 3) (hts : ∀ w ∈ wsX8_order, w.before ([.ref h_t, .int p0] : List Value).toArray s = true) (hown : s.vm.findClass RX8 = some m.cls) (hlocks : meth.locks = false) (hK : va_K G vwCl (k_T cI cJ cD cH) s) (hA : ∀ q : Nat, s.heap.size ≤ q → A q) : ∀  (vJ56_0 : Nat → Int32) (H : Heap) (locs : List Loc) (ls : Array Slot), va_P G vwCl [(h_t, .inr (7, [.ref h_t_desk, .ref h_t_imageDesk, .ref h_t_deeds, .ref h_t_numbers, .ref h_t_tape, .ref h_t_reader, .ref h_t_speller, .ref h_t_holders, .int t_imageKept])), (h_t_desk, .inr (1, [.int t_desk_genus, .int t_desk_size, .ref h_t_desk_powers, .int t_desk_limit, .long t_desk_tree])), (h_t_desk_powers, .inl (cI, 8, .inl vJ56_0)), (h_t_deeds, .inr (0, [.ref h_t_deeds_desks, .int t_deeds_now, .int t_deeds_last])), (h_t_deeds_desks, .inl (cD, 9, .inr (.inr (.inr (.inr (fun i => some (d_t_deeds_desks i))))))), ((d_t_deeds_desks 0), .inr (1, [.int (t_deeds_desks_genus 0), .int (t_deeds_desks_size 0), .ref (q_t_deeds_desks 0), .int (t_deeds_desks_limit 0), .long (t_deeds_desks_tree 0)])), ((q_t_deeds_desks 0), .inl (cI, 8, .inl (a_t_deeds_desks 0))), ((d_t_deeds_desks 1), .inr (1, [.int (t_deeds_desks_genus 1), .int (t_deeds_desks_size 1), .ref (q_t_deeds_desks 1), .int (t_deeds_desks_limit 1), .long (t_deeds_desks_tree 1)])), ((q_t_deeds_desks 1), .inl (cI, 8, .inl (a_t_deeds_desks 1))), ((d_t_deeds_desks 2), .inr (1, [.int (t_deeds_desks_genus 2), .int (t_deeds_desks_size 2), .ref (q_t_deeds_desks 2), .int (t_deeds_desks_limit 2), .long (t_deeds_desks_tree 2)])), ((q_t_deeds_desks 2), .inl (cI, 8, .inl (a_t_deeds_desks 2))), ((d_t_deeds_desks 3), .inr (1, [.int (t_deeds_desks_genus 3), .int (t_deeds_desks_size 3), .ref (q_t_deeds_desks 3), .int (t_deeds_desks_limit 3), .long (t_deeds_desks_tree 3)])), ((q_t_deeds_desks 3), .inl (cI, 8, .inl (a_t_deeds_desks 3))), ((d_t_deeds_desks 4), .inr (1, [.int (t_deeds_desks_genus 4), .int (t_deeds_desks_size 4), .ref (q_t_deeds_desks 4), .int (t_deeds_desks_limit 4), .long (t_deeds_desks_tree 4)])), ((q_t_deeds_desks 4), .inl (cI, 8, .inl (a_t_deeds_desks 4))), ((d_t_deeds_desks 5), .inr (1, [.int (t_deeds_desks_genus 5), .int (t_deeds_desks_size 5), .ref (q_t_deeds_desks 5), .int (t_deeds_desks_limit 5), .long (t_deeds_desks_tree 5)])), ((q_t_deeds_desks 5), .inl (cI, 8, .inl (a_t_deeds_desks 5))), ((d_t_deeds_desks 6), .inr (1, [.int (t_deeds_desks_genus 6), .int (t_deeds_desks_size 6), .ref (q_t_deeds_desks 6), .int (t_deeds_desks_limit 6), .long (t_deeds_desks_tree 6)])), ((q_t_deeds_desks 6), .inl (cI, 8, .inl (a_t_deeds_desks 6))), ((d_t_deeds_desks 7), .inr (1, [.int (t_deeds_desks_genus 7), .int (t_deeds_desks_size 7), .ref (q_t_deeds_desks 7), .int (t_deeds_desks_limit 7), .long (t_deeds_desks_tree 7)])), ((q_t_deeds_desks 7), .inl (cI, 8, .inl (a_t_deeds_desks 7))), ((d_t_deeds_desks 8), .inr (1, [.int (t_deeds_desks_genus 8), .int (t_deeds_desks_size 8), .ref (q_t_deeds_desks 8), .int (t_deeds_desks_limit 8), .long (t_deeds_desks_tree 8)])), ((q_t_deeds_desks 8), .inl (cI, 8, .inl (a_t_deeds_desks 8)))] H → va_D A [(h_t, .inr (7, [.ref h_t_desk, .ref h_t_imageDesk, .ref h_t_deeds, .ref h_t_numbers, .ref h_t_tape, .ref h_t_reader, .ref h_t_speller, .ref h_t_holders, .int t_imageKept])), (h_t_desk, .inr (1, [.int t_desk_genus, .int t_desk_size, .ref h_t_desk_powers, .int t_desk_limit, .long t_desk_tree])), (h_t_desk_powers, .inl (cI, 8, .inl vJ56_0)), (h_t_deeds, .inr (0, [.ref h_t_deeds_desks, .int t_deeds_now, .int t_deeds_last])), (h_t_deeds_desks, .inl (cD, 9, .inr (.inr (.inr (.inr (fun i => some (d_t_deeds_desks i))))))), ((d_t_deeds_desks 0), .inr (1, [.int (t_deeds_desks_genus 0), .int (t_deeds_desks_size 0), .ref (q_t_deeds_desks 0), .int (t_deeds_desks_limit 0), .long (t_deeds_desks_tree 0)])), ((q_t_deeds_desks 0), .inl (cI, 8, .inl (a_t_deeds_desks 0))), ((d_t_deeds_desks 1), .inr (1, [.int (t_deeds_desks_genus 1), .int (t_deeds_desks_size 1), .ref (q_t_deeds_desks 1), .int (t_deeds_desks_limit 1), .long (t_deeds_desks_tree 1)])), ((q_t_deeds_desks 1), .inl (cI, 8, .inl (a_t_deeds_desks 1))), ((d_t_deeds_desks 2), .inr (1, [.int (t_deeds_desks_genus 2), .int (t_deeds_desks_size 2), .ref (q_t_deeds_desks 2), .int (t_deeds_desks_limit 2), .long (t_deeds_desks_tree 2)])), ((q_t_deeds_desks 2), .inl (cI, 8, .inl (a_t_deeds_desks 2))), ((d_t_deeds_desks 3), .inr (1, [.int (t_deeds_desks_genus 3), .int (t_deeds_desks_size 3), .ref (q_t_deeds_desks 3), .int (t_deeds_desks_limit 3), .long (t_deeds_desks_tree 3)])), ((q_t_deeds_desks 3), .inl (cI, 8, .inl (a_t_deeds_desks 3))), ((d_t_deeds_desks 4), .inr (1, [.int (t_deeds_desks_genus 4), .int (t_deeds_desks_size 4), .ref (q_t_deeds_desks 4), .int (t_deeds_desks_limit 4), .long (t_deeds_desks_tree 4)])), ((q_t_deeds_desks 4), .inl (cI, 8, .inl (a_t_deeds_desks 4))), ((d_t_deeds_desks 5), .inr (1, [.int (t_deeds_desks_genus 5), .int (t_deeds_desks_size 5), .ref (q_t_deeds_desks 5), .int (t_deeds_desks_limit 5), .long (t_deeds_desks_tree 5)])), ((q_t_deeds_desks 5), .inl (cI, 8, .inl (a_t_deeds_desks 5))), ((d_t_deeds_desks 6), .inr (1, [.int (t_deeds_desks_genus 6), .int (t_deeds_desks_size 6), .ref (q_t_deeds_desks 6), .int (t_deeds_desks_limit 6), .long (t_deeds_desks_tree 6)])), ((q_t_deeds_desks 6), .inl (cI, 8, .inl (a_t_deeds_desks 6))), ((d_t_deeds_desks 7), .inr (1, [.int (t_deeds_desks_genus 7), .int (t_deeds_desks_size 7), .ref (q_t_deeds_desks 7), .int (t_deeds_desks_limit 7), .long (t_deeds_desks_tree 7)])), ((q_t_deeds_desks 7), .inl (cI, 8, .inl (a_t_deeds_desks 7))), ((d_t_deeds_desks 8), .inr (1, [.int (t_deeds_desks_genus 8), .int (t_deeds_desks_size 8), .ref (q_t_deeds_desks 8), .int (t_deeds_desks_limit 8), .long (t_deeds_desks_tree 8)])), ((q_t_deeds_desks 8), .inl (cI, 8, .inl (a_t_deeds_desks 8)))] → va_S A s.heap H locs → lv_has ls 3 [(0, .ref h_t)] → J_X8_order_56 d_t_deeds_desks q_t_deeds_desks a_t_deeds_desks t_deeds_desks_genus t_deeds_desks_size t_deeds_desks_limit t_deeds_desks_tree t_desk_genus t_desk_size t_desk_limit t_desk_tree t_deeds_now t_deeds_last vJ56_0 = some (r0, w0, w1, w2, w3, w4, w5, w6, w7, w8, w9) → W p l e (headSpec wsX8_order ({ frames := 4, cells := 0, slots := 0, locals := 86 })).room s m ([.ref h_t, .int p0] : List Value).toArray below meth c H locs 0 0 (MQ below (va_Qi (fun r (_ : Unit) => r = r0 ∧ True) (fun _ t => va_P G vwCl [(h_t, .inr (7, [.ref h_t_desk, .ref h_t_imageDesk, .ref h_t_deeds, .ref h_t_numbers, .ref h_t_tape, .ref h_t_reader, .ref h_t_speller, .ref h_t_holders, .int t_imageKept])), (h_t_desk, .inr (1, [.int t_desk_genus, .int t_desk_size, .ref h_t_desk_powers, .int t_desk_limit, .long t_desk_tree])), (h_t_desk_powers, .inl (cI, 8, .inl w0)), (h_t_deeds, .inr (0, [.ref h_t_deeds_desks, .int w1, .int w2])), (h_t_deeds_desks, .inl (cD, 9, .inr (.inr (.inr (.inr (fun i => some (w4 i))))))), ((w4 0), .inr (1, [.int (w5 0), .int (w8 0), .ref (w7 0), .int (w6 0), .long (w9 0)])), ((w7 0), .inl (cI, 8, .inl (w3 0))), ((w4 1), .inr (1, [.int (w5 1), .int (w8 1), .ref (w7 1), .int (w6 1), .long (w9 1)])), ((w7 1), .inl (cI, 8, .inl (w3 1))), ((w4 2), .inr (1, [.int (w5 2), .int (w8 2), .ref (w7 2), .int (w6 2), .long (w9 2)])), ((w7 2), .inl (cI, 8, .inl (w3 2))), ((w4 3), .inr (1, [.int (w5 3), .int (w8 3), .ref (w7 3), .int (w6 3), .long (w9 3)])), ((w7 3), .inl (cI, 8, .inl (w3 3))), ((w4 4), .inr (1, [.int (w5 4), .int (w8 4), .ref (w7 4), .int (w6 4), .long (w9 4)])), ((w7 4), .inl (cI, 8, .inl (w3 4))), ((w4 5), .inr (1, [.int (w5 5), .int (w8 5), .ref (w7 5), .int (w6 5), .long (w9 5)])), ((w7 5), .inl (cI, 8, .inl (w3 5))), ((w4 6), .inr (1, [.int (w5 6), .int (w8 6), .ref (w7 6), .int (w6 6), .long (w9 6)])), ((w7 6), .inl (cI, 8, .inl (w3 6))), ((w4 7), .inr (1, [.int (w5 7), .int (w8 7), .ref (w7 7), .int (w6 7), .long (w9 7)])), ((w7 7), .inl (cI, 8, .inl (w3 7))), ((w4 8), .inr (1, [.int (w5 8), .int (w8 8), .ref (w7 8), .int (w6 8), .long (w9 8)])), ((w7 8), .inl (cI, 8, .inl (w3 8)))] t.heap ∧ va_D A [(h_t, .inr (7, [.ref h_t_desk, .ref h_t_imageDesk, .ref h_t_deeds, .ref h_t_numbers, .ref h_t_tape, .ref h_t_reader, .ref h_t_speller, .ref h_t_holders, .int t_imageKept])), (h_t_desk, .inr (1, [.int t_desk_genus, .int t_desk_size, .ref h_t_desk_powers, .int t_desk_limit, .long t_desk_tree])), (h_t_desk_powers, .inl (cI, 8, .inl w0)), (h_t_deeds, .inr (0, [.ref h_t_deeds_desks, .int w1, .int w2])), (h_t_deeds_desks, .inl (cD, 9, .inr (.inr (.inr (.inr (fun i => some (w4 i))))))), ((w4 0), .inr (1, [.int (w5 0), .int (w8 0), .ref (w7 0), .int (w6 0), .long (w9 0)])), ((w7 0), .inl (cI, 8, .inl (w3 0))), ((w4 1), .inr (1, [.int (w5 1), .int (w8 1), .ref (w7 1), .int (w6 1), .long (w9 1)])), ((w7 1), .inl (cI, 8, .inl (w3 1))), ((w4 2), .inr (1, [.int (w5 2), .int (w8 2), .ref (w7 2), .int (w6 2), .long (w9 2)])), ((w7 2), .inl (cI, 8, .inl (w3 2))), ((w4 3), .inr (1, [.int (w5 3), .int (w8 3), .ref (w7 3), .int (w6 3), .long (w9 3)])), ((w7 3), .inl (cI, 8, .inl (w3 3))), ((w4 4), .inr (1, [.int (w5 4), .int (w8 4), .ref (w7 4), .int (w6 4), .long (w9 4)])), ((w7 4), .inl (cI, 8, .inl (w3 4))), ((w4 5), .inr (1, [.int (w5 5), .int (w8 5), .ref (w7 5), .int (w6 5), .long (w9 5)])), ((w7 5), .inl (cI, 8, .inl (w3 5))), ((w4 6), .inr (1, [.int (w5 6), .int (w8 6), .ref (w7 6), .int (w6 6), .long (w9 6)])), ((w7 6), .inl (cI, 8, .inl (w3 6))), ((w4 7), .inr (1, [.int (w5 7), .int (w8 7), .ref (w7 7), .int (w6 7), .long (w9 7)])), ((w7 7), .inl (cI, 8, .inl (w3 7))), ((w4 8), .inr (1, [.int (w5 8), .int (w8 8), .ref (w7 8), .int (w6 8), .long (w9 8)])), ((w7 8), .inl (cI, 8, .inl (w3 8)))]) A) ([.ref h_t, .int p0] : List Value).toArray s 0 0 A) (F0 m 56 ls []) := by
  have hta : ∀ w ∈ wA, w.before ([.ref h_t, .int p0] : List Value).toArray s = true := hta_of hts
  have hinX8 : ∀ w ∈ wsX80, w ∈ wsX8_order := hin_of in_X8
  intro vJ56_0 H locs ls hP hD hS hl h
  unfold J_X8_order_56 at h
  refine lv_aload_n hx hb dX8_order_56 rfl (lv_at hl 0 rfl) ?_
  refine va_get (D := G) (ci := 7) (v := .ref h_t_desk) (C := RX8) (T := TX8) (N := 9) hx hb hts hinX8 hown hK hP 0 rfl rfl 0 (by decide) (hta _ mw_358) (fun _ h9 => h9) rfl dX8_order_57 ?_
  refine lv_aload_n hx hb dX8_order_60 rfl (lv_at hl 0 rfl) ?_
  refine va_get (D := G) (ci := 7) (v := .ref h_t_deeds) (C := RX8) (T := TX8) (N := 9) hx hb hts hinX8 hown hK hP 0 rfl rfl 2 (by decide) (hta _ mw_362) (fun _ h9 => h9) rfl dX8_order_61 ?_
  obtain ⟨x4, hx4, h⟩ := bd_e h
  try dsimp only at h
  have hb4 := k_lt_X0_present hx4
  refine k_VqU (n := 0) (As := []) (rest := [.ref h_t_desk]) hx hb hml hown hts (c_X0_present l G cI cJ cD cH H.size h_t_deeds h_t_deeds_desks d_t_deeds_desks q_t_deeds_desks a_t_deeds_desks t_deeds_desks_genus t_deeds_desks_size t_deeds_desks_limit t_deeds_desks_tree t_deeds_now t_deeds_last x4 hx4) gX8_order_X0_present rfl rfl rfl (by decide +kernel) ⟨by first | exact Nat.le_of_ble_eq_true rfl | (simp only [headSpec]; omega), by first | exact Nat.le_of_ble_eq_true rfl | (simp only [headSpec]; omega)⟩ hK hP hD hS hA [3, 4, 5, 6, 7, 8, 9, 10, 11, 12, 13, 14, 15, 16, 17, 18, 19, 20, 21, 22] (by decide) rfl (ci := 0) rfl rfl rfl rfl rfl hl.1 (Nat.le_of_ble_eq_true rfl) dX8_order_64 ⟨Nat.zero_le _, Nat.zero_le _⟩ (fun hp4 H locs hP hS => ?_)
  refine W.eq (g2 := F0 m 67 ls [.ref (d_t_deeds_desks x4), .ref h_t_desk]) rfl ?_
  obtain ⟨x5, hx5, h⟩ := bd_e h
  try dsimp only at h
  refine k_ViU (n := 1) (As := [.ref (d_t_deeds_desks x4)]) (rest := []) hx hb hml hown hts (c_X1_unlikePowers l G cI cJ cD cH H.size h_t_desk (d_t_deeds_desks x4) h_t_desk_powers (q_t_deeds_desks x4) t_desk_genus t_desk_size t_desk_limit t_desk_tree (t_deeds_desks_genus x4) (t_deeds_desks_size x4) (t_deeds_desks_limit x4) (t_deeds_desks_tree x4) vJ56_0 (a_t_deeds_desks x4) x5 hx5) gX8_order_X1_unlikePowers rfl rfl rfl (by decide +kernel) ⟨by first | exact Nat.le_of_ble_eq_true rfl | (simp only [headSpec]; omega), by first | exact Nat.le_of_ble_eq_true rfl | (simp only [headSpec]; omega)⟩ hK hP hD hS hA [1, (5 + 2 * x4), 2, (6 + 2 * x4)] (by obtain rfl | rfl | rfl | rfl | rfl | rfl | rfl | rfl | rfl := k_lt9 hb4 <;> decide) (by obtain rfl | rfl | rfl | rfl | rfl | rfl | rfl | rfl | rfl := k_lt9 hb4 <;> rfl) (ci := 1) rfl rfl rfl rfl rfl hl.1 (Nat.le_of_ble_eq_true rfl) dX8_order_67 ⟨Nat.zero_le _, Nat.zero_le _⟩ (fun hp5 H locs hP hS => ?_)
  refine lv_istore_n (lv' := [(2, .int x5), (0, .ref h_t)]) hx hb dX8_order_70 rfl hl (by decide) rfl (fun ls hl => ?_)
  exact tJ_X8_order_71 hx hb hr hml hts hown hlocks hK hA x5 _ _ _ hP hD hS (lv_sub hl [1, 0] rfl) h
set_option maxHeartbeats 40000000 in
set_option maxRecDepth 100000 in
theorem tJ_X8_order_44 {l : Launch} {G : va_G} {cI cJ cD cH : ClassId} {h_t : Nat} {h_t_desk : Nat} {h_t_desk_powers : Nat} {h_t_deeds : Nat} {h_t_deeds_desks : Nat} {h_t_imageDesk : Nat} {h_t_numbers : Nat} {h_t_tape : Nat} {h_t_reader : Nat} {h_t_speller : Nat} {h_t_holders : Nat} {d_t_deeds_desks : Nat → Nat} {q_t_deeds_desks : Nat → Nat} {a_t_deeds_desks : Nat → Nat → Int32} {t_deeds_desks_genus : Nat → Int32} {t_deeds_desks_size : Nat → Int32} {t_deeds_desks_limit : Nat → Int32} {t_deeds_desks_tree : Nat → Int64} {t_imageKept : Int32} {t_desk_genus : Int32} {t_desk_size : Int32} {t_desk_limit : Int32} {t_desk_tree : Int64} {t_deeds_now : Int32} {t_deeds_last : Int32} {p0 : Int32} {r0 : Int32} {w0 : Nat → Int32} {w1 : Int32} {w2 : Int32} {w3 : Nat → Nat → Int32} {w4 : Nat → Nat} {w5 : Nat → Int32} {w6 : Nat → Int32} {w7 : Nat → Nat} {w8 : Nat → Int32} {w9 : Nat → Int64} {p : Program} {e : Env} {s : State} {m : MethodId} {below : List Frame} {meth : Method} {c : Code} {A : Nat → Prop} (hx : p.tables.exec = Jvm.exec) (hb : c.code = cX8_order) (hr : meth.sig.returnType = (some .int)) (hml : c.maxLocals = 3) (hts : ∀ w ∈ wsX8_order, w.before ([.ref h_t, .int p0] : List Value).toArray s = true) (hown : s.vm.findClass RX8 = some m.cls) (hlocks : meth.locks = false) (hK : va_K G vwCl (k_T cI cJ cD cH) s) (hA : ∀ q : Nat, s.heap.size ≤ q → A q) : ∀  (vJ44_0 : Nat → Int32) (H : Heap) (locs : List Loc) (ls : Array Slot), va_P G vwCl [(h_t, .inr (7, [.ref h_t_desk, .ref h_t_imageDesk, .ref h_t_deeds, .ref h_t_numbers, .ref h_t_tape, .ref h_t_reader, .ref h_t_speller, .ref h_t_holders, .int t_imageKept])), (h_t_desk, .inr (1, [.int t_desk_genus, .int t_desk_size, .ref h_t_desk_powers, .int t_desk_limit, .long t_desk_tree])), (h_t_desk_powers, .inl (cI, 8, .inl vJ44_0)), (h_t_deeds, .inr (0, [.ref h_t_deeds_desks, .int t_deeds_now, .int t_deeds_last])), (h_t_deeds_desks, .inl (cD, 9, .inr (.inr (.inr (.inr (fun i => some (d_t_deeds_desks i))))))), ((d_t_deeds_desks 0), .inr (1, [.int (t_deeds_desks_genus 0), .int (t_deeds_desks_size 0), .ref (q_t_deeds_desks 0), .int (t_deeds_desks_limit 0), .long (t_deeds_desks_tree 0)])), ((q_t_deeds_desks 0), .inl (cI, 8, .inl (a_t_deeds_desks 0))), ((d_t_deeds_desks 1), .inr (1, [.int (t_deeds_desks_genus 1), .int (t_deeds_desks_size 1), .ref (q_t_deeds_desks 1), .int (t_deeds_desks_limit 1), .long (t_deeds_desks_tree 1)])), ((q_t_deeds_desks 1), .inl (cI, 8, .inl (a_t_deeds_desks 1))), ((d_t_deeds_desks 2), .inr (1, [.int (t_deeds_desks_genus 2), .int (t_deeds_desks_size 2), .ref (q_t_deeds_desks 2), .int (t_deeds_desks_limit 2), .long (t_deeds_desks_tree 2)])), ((q_t_deeds_desks 2), .inl (cI, 8, .inl (a_t_deeds_desks 2))), ((d_t_deeds_desks 3), .inr (1, [.int (t_deeds_desks_genus 3), .int (t_deeds_desks_size 3), .ref (q_t_deeds_desks 3), .int (t_deeds_desks_limit 3), .long (t_deeds_desks_tree 3)])), ((q_t_deeds_desks 3), .inl (cI, 8, .inl (a_t_deeds_desks 3))), ((d_t_deeds_desks 4), .inr (1, [.int (t_deeds_desks_genus 4), .int (t_deeds_desks_size 4), .ref (q_t_deeds_desks 4), .int (t_deeds_desks_limit 4), .long (t_deeds_desks_tree 4)])), ((q_t_deeds_desks 4), .inl (cI, 8, .inl (a_t_deeds_desks 4))), ((d_t_deeds_desks 5), .inr (1, [.int (t_deeds_desks_genus 5), .int (t_deeds_desks_size 5), .ref (q_t_deeds_desks 5), .int (t_deeds_desks_limit 5), .long (t_deeds_desks_tree 5)])), ((q_t_deeds_desks 5), .inl (cI, 8, .inl (a_t_deeds_desks 5))), ((d_t_deeds_desks 6), .inr (1, [.int (t_deeds_desks_genus 6), .int (t_deeds_desks_size 6), .ref (q_t_deeds_desks 6), .int (t_deeds_desks_limit 6), .long (t_deeds_desks_tree 6)])), ((q_t_deeds_desks 6), .inl (cI, 8, .inl (a_t_deeds_desks 6))), ((d_t_deeds_desks 7), .inr (1, [.int (t_deeds_desks_genus 7), .int (t_deeds_desks_size 7), .ref (q_t_deeds_desks 7), .int (t_deeds_desks_limit 7), .long (t_deeds_desks_tree 7)])), ((q_t_deeds_desks 7), .inl (cI, 8, .inl (a_t_deeds_desks 7))), ((d_t_deeds_desks 8), .inr (1, [.int (t_deeds_desks_genus 8), .int (t_deeds_desks_size 8), .ref (q_t_deeds_desks 8), .int (t_deeds_desks_limit 8), .long (t_deeds_desks_tree 8)])), ((q_t_deeds_desks 8), .inl (cI, 8, .inl (a_t_deeds_desks 8)))] H → va_D A [(h_t, .inr (7, [.ref h_t_desk, .ref h_t_imageDesk, .ref h_t_deeds, .ref h_t_numbers, .ref h_t_tape, .ref h_t_reader, .ref h_t_speller, .ref h_t_holders, .int t_imageKept])), (h_t_desk, .inr (1, [.int t_desk_genus, .int t_desk_size, .ref h_t_desk_powers, .int t_desk_limit, .long t_desk_tree])), (h_t_desk_powers, .inl (cI, 8, .inl vJ44_0)), (h_t_deeds, .inr (0, [.ref h_t_deeds_desks, .int t_deeds_now, .int t_deeds_last])), (h_t_deeds_desks, .inl (cD, 9, .inr (.inr (.inr (.inr (fun i => some (d_t_deeds_desks i))))))), ((d_t_deeds_desks 0), .inr (1, [.int (t_deeds_desks_genus 0), .int (t_deeds_desks_size 0), .ref (q_t_deeds_desks 0), .int (t_deeds_desks_limit 0), .long (t_deeds_desks_tree 0)])), ((q_t_deeds_desks 0), .inl (cI, 8, .inl (a_t_deeds_desks 0))), ((d_t_deeds_desks 1), .inr (1, [.int (t_deeds_desks_genus 1), .int (t_deeds_desks_size 1), .ref (q_t_deeds_desks 1), .int (t_deeds_desks_limit 1), .long (t_deeds_desks_tree 1)])), ((q_t_deeds_desks 1), .inl (cI, 8, .inl (a_t_deeds_desks 1))), ((d_t_deeds_desks 2), .inr (1, [.int (t_deeds_desks_genus 2), .int (t_deeds_desks_size 2), .ref (q_t_deeds_desks 2), .int (t_deeds_desks_limit 2), .long (t_deeds_desks_tree 2)])), ((q_t_deeds_desks 2), .inl (cI, 8, .inl (a_t_deeds_desks 2))), ((d_t_deeds_desks 3), .inr (1, [.int (t_deeds_desks_genus 3), .int (t_deeds_desks_size 3), .ref (q_t_deeds_desks 3), .int (t_deeds_desks_limit 3), .long (t_deeds_desks_tree 3)])), ((q_t_deeds_desks 3), .inl (cI, 8, .inl (a_t_deeds_desks 3))), ((d_t_deeds_desks 4), .inr (1, [.int (t_deeds_desks_genus 4), .int (t_deeds_desks_size 4), .ref (q_t_deeds_desks 4), .int (t_deeds_desks_limit 4), .long (t_deeds_desks_tree 4)])), ((q_t_deeds_desks 4), .inl (cI, 8, .inl (a_t_deeds_desks 4))), ((d_t_deeds_desks 5), .inr (1, [.int (t_deeds_desks_genus 5), .int (t_deeds_desks_size 5), .ref (q_t_deeds_desks 5), .int (t_deeds_desks_limit 5), .long (t_deeds_desks_tree 5)])), ((q_t_deeds_desks 5), .inl (cI, 8, .inl (a_t_deeds_desks 5))), ((d_t_deeds_desks 6), .inr (1, [.int (t_deeds_desks_genus 6), .int (t_deeds_desks_size 6), .ref (q_t_deeds_desks 6), .int (t_deeds_desks_limit 6), .long (t_deeds_desks_tree 6)])), ((q_t_deeds_desks 6), .inl (cI, 8, .inl (a_t_deeds_desks 6))), ((d_t_deeds_desks 7), .inr (1, [.int (t_deeds_desks_genus 7), .int (t_deeds_desks_size 7), .ref (q_t_deeds_desks 7), .int (t_deeds_desks_limit 7), .long (t_deeds_desks_tree 7)])), ((q_t_deeds_desks 7), .inl (cI, 8, .inl (a_t_deeds_desks 7))), ((d_t_deeds_desks 8), .inr (1, [.int (t_deeds_desks_genus 8), .int (t_deeds_desks_size 8), .ref (q_t_deeds_desks 8), .int (t_deeds_desks_limit 8), .long (t_deeds_desks_tree 8)])), ((q_t_deeds_desks 8), .inl (cI, 8, .inl (a_t_deeds_desks 8)))] → va_S A s.heap H locs → lv_has ls 3 [(0, .ref h_t), (1, .int p0)] → J_X8_order_44 d_t_deeds_desks q_t_deeds_desks a_t_deeds_desks t_deeds_desks_genus t_deeds_desks_size t_deeds_desks_limit t_deeds_desks_tree t_desk_genus t_desk_size t_desk_limit t_desk_tree t_deeds_now t_deeds_last p0 vJ44_0 = some (r0, w0, w1, w2, w3, w4, w5, w6, w7, w8, w9) → W p l e (headSpec wsX8_order ({ frames := 4, cells := 0, slots := 0, locals := 86 })).room s m ([.ref h_t, .int p0] : List Value).toArray below meth c H locs 0 0 (MQ below (va_Qi (fun r (_ : Unit) => r = r0 ∧ True) (fun _ t => va_P G vwCl [(h_t, .inr (7, [.ref h_t_desk, .ref h_t_imageDesk, .ref h_t_deeds, .ref h_t_numbers, .ref h_t_tape, .ref h_t_reader, .ref h_t_speller, .ref h_t_holders, .int t_imageKept])), (h_t_desk, .inr (1, [.int t_desk_genus, .int t_desk_size, .ref h_t_desk_powers, .int t_desk_limit, .long t_desk_tree])), (h_t_desk_powers, .inl (cI, 8, .inl w0)), (h_t_deeds, .inr (0, [.ref h_t_deeds_desks, .int w1, .int w2])), (h_t_deeds_desks, .inl (cD, 9, .inr (.inr (.inr (.inr (fun i => some (w4 i))))))), ((w4 0), .inr (1, [.int (w5 0), .int (w8 0), .ref (w7 0), .int (w6 0), .long (w9 0)])), ((w7 0), .inl (cI, 8, .inl (w3 0))), ((w4 1), .inr (1, [.int (w5 1), .int (w8 1), .ref (w7 1), .int (w6 1), .long (w9 1)])), ((w7 1), .inl (cI, 8, .inl (w3 1))), ((w4 2), .inr (1, [.int (w5 2), .int (w8 2), .ref (w7 2), .int (w6 2), .long (w9 2)])), ((w7 2), .inl (cI, 8, .inl (w3 2))), ((w4 3), .inr (1, [.int (w5 3), .int (w8 3), .ref (w7 3), .int (w6 3), .long (w9 3)])), ((w7 3), .inl (cI, 8, .inl (w3 3))), ((w4 4), .inr (1, [.int (w5 4), .int (w8 4), .ref (w7 4), .int (w6 4), .long (w9 4)])), ((w7 4), .inl (cI, 8, .inl (w3 4))), ((w4 5), .inr (1, [.int (w5 5), .int (w8 5), .ref (w7 5), .int (w6 5), .long (w9 5)])), ((w7 5), .inl (cI, 8, .inl (w3 5))), ((w4 6), .inr (1, [.int (w5 6), .int (w8 6), .ref (w7 6), .int (w6 6), .long (w9 6)])), ((w7 6), .inl (cI, 8, .inl (w3 6))), ((w4 7), .inr (1, [.int (w5 7), .int (w8 7), .ref (w7 7), .int (w6 7), .long (w9 7)])), ((w7 7), .inl (cI, 8, .inl (w3 7))), ((w4 8), .inr (1, [.int (w5 8), .int (w8 8), .ref (w7 8), .int (w6 8), .long (w9 8)])), ((w7 8), .inl (cI, 8, .inl (w3 8)))] t.heap ∧ va_D A [(h_t, .inr (7, [.ref h_t_desk, .ref h_t_imageDesk, .ref h_t_deeds, .ref h_t_numbers, .ref h_t_tape, .ref h_t_reader, .ref h_t_speller, .ref h_t_holders, .int t_imageKept])), (h_t_desk, .inr (1, [.int t_desk_genus, .int t_desk_size, .ref h_t_desk_powers, .int t_desk_limit, .long t_desk_tree])), (h_t_desk_powers, .inl (cI, 8, .inl w0)), (h_t_deeds, .inr (0, [.ref h_t_deeds_desks, .int w1, .int w2])), (h_t_deeds_desks, .inl (cD, 9, .inr (.inr (.inr (.inr (fun i => some (w4 i))))))), ((w4 0), .inr (1, [.int (w5 0), .int (w8 0), .ref (w7 0), .int (w6 0), .long (w9 0)])), ((w7 0), .inl (cI, 8, .inl (w3 0))), ((w4 1), .inr (1, [.int (w5 1), .int (w8 1), .ref (w7 1), .int (w6 1), .long (w9 1)])), ((w7 1), .inl (cI, 8, .inl (w3 1))), ((w4 2), .inr (1, [.int (w5 2), .int (w8 2), .ref (w7 2), .int (w6 2), .long (w9 2)])), ((w7 2), .inl (cI, 8, .inl (w3 2))), ((w4 3), .inr (1, [.int (w5 3), .int (w8 3), .ref (w7 3), .int (w6 3), .long (w9 3)])), ((w7 3), .inl (cI, 8, .inl (w3 3))), ((w4 4), .inr (1, [.int (w5 4), .int (w8 4), .ref (w7 4), .int (w6 4), .long (w9 4)])), ((w7 4), .inl (cI, 8, .inl (w3 4))), ((w4 5), .inr (1, [.int (w5 5), .int (w8 5), .ref (w7 5), .int (w6 5), .long (w9 5)])), ((w7 5), .inl (cI, 8, .inl (w3 5))), ((w4 6), .inr (1, [.int (w5 6), .int (w8 6), .ref (w7 6), .int (w6 6), .long (w9 6)])), ((w7 6), .inl (cI, 8, .inl (w3 6))), ((w4 7), .inr (1, [.int (w5 7), .int (w8 7), .ref (w7 7), .int (w6 7), .long (w9 7)])), ((w7 7), .inl (cI, 8, .inl (w3 7))), ((w4 8), .inr (1, [.int (w5 8), .int (w8 8), .ref (w7 8), .int (w6 8), .long (w9 8)])), ((w7 8), .inl (cI, 8, .inl (w3 8)))]) A) ([.ref h_t, .int p0] : List Value).toArray s 0 0 A) (F0 m 44 ls []) := by
  have hta : ∀ w ∈ wA, w.before ([.ref h_t, .int p0] : List Value).toArray s = true := hta_of hts
  have hinX8 : ∀ w ∈ wsX80, w ∈ wsX8_order := hin_of in_X8
  intro vJ44_0 H locs ls hP hD hS hl h
  unfold J_X8_order_44 at h
  refine lv_iload_n hx hb dX8_order_44 rfl (lv_at hl 1 rfl) ?_
  refine lv_iconst (v := (3 : Int32)) hx hb dX8_order_45 (by decide) ?_
  refine lv_icmp_ne (tgt := 56) hx hb dX8_order_46 (by decide) (fun c6 => ?_) (fun c6 => ?_)
  · have h := it_n h c6
    exact tJ_X8_order_56 hx hb hr hml hts hown hlocks hK hA vJ44_0 _ _ _ hP hD hS (lv_sub hl [0] rfl) h
  have h := it_p h c6
  refine lv_aload_n hx hb dX8_order_49 rfl (lv_at hl 0 rfl) ?_
  refine va_get (D := G) (ci := 7) (v := .ref h_t_desk) (C := RX8) (T := TX8) (N := 9) hx hb hts hinX8 hown hK hP 0 rfl rfl 0 (by decide) (hta _ mw_358) (fun _ h9 => h9) rfl dX8_order_50 ?_
  obtain ⟨x7, hx7, h⟩ := bd_e h
  try dsimp only at h
  refine k_VvM (n := 0) (As := []) (rest := []) hx hb hml hown hts (c_X1_putFirstLast l G cI cJ cD cH H.size h_t_desk h_t_desk_powers t_desk_genus t_desk_size t_desk_limit t_desk_tree vJ44_0 x7 hx7) gX8_order_X1_putFirstLast rfl rfl rfl (by decide +kernel) ⟨by first | exact Nat.le_of_ble_eq_true rfl | (simp only [headSpec]; omega), by first | exact Nat.le_of_ble_eq_true rfl | (simp only [headSpec]; omega)⟩ hK hP hD hS hA [1, 2] (by decide) rfl rfl (ci := 1) rfl rfl rfl rfl rfl hl.1 (Nat.le_of_ble_eq_true rfl) dX8_order_53 ⟨Nat.zero_le _, Nat.zero_le _⟩ [(h_t, .inr (7, [.ref h_t_desk, .ref h_t_imageDesk, .ref h_t_deeds, .ref h_t_numbers, .ref h_t_tape, .ref h_t_reader, .ref h_t_speller, .ref h_t_holders, .int t_imageKept])), (h_t_desk, .inr (1, [.int t_desk_genus, .int t_desk_size, .ref h_t_desk_powers, .int t_desk_limit, .long t_desk_tree])), (h_t_desk_powers, .inl (cI, 8, .inl x7)), (h_t_deeds, .inr (0, [.ref h_t_deeds_desks, .int t_deeds_now, .int t_deeds_last])), (h_t_deeds_desks, .inl (cD, 9, .inr (.inr (.inr (.inr (fun i => some (d_t_deeds_desks i))))))), ((d_t_deeds_desks 0), .inr (1, [.int (t_deeds_desks_genus 0), .int (t_deeds_desks_size 0), .ref (q_t_deeds_desks 0), .int (t_deeds_desks_limit 0), .long (t_deeds_desks_tree 0)])), ((q_t_deeds_desks 0), .inl (cI, 8, .inl (a_t_deeds_desks 0))), ((d_t_deeds_desks 1), .inr (1, [.int (t_deeds_desks_genus 1), .int (t_deeds_desks_size 1), .ref (q_t_deeds_desks 1), .int (t_deeds_desks_limit 1), .long (t_deeds_desks_tree 1)])), ((q_t_deeds_desks 1), .inl (cI, 8, .inl (a_t_deeds_desks 1))), ((d_t_deeds_desks 2), .inr (1, [.int (t_deeds_desks_genus 2), .int (t_deeds_desks_size 2), .ref (q_t_deeds_desks 2), .int (t_deeds_desks_limit 2), .long (t_deeds_desks_tree 2)])), ((q_t_deeds_desks 2), .inl (cI, 8, .inl (a_t_deeds_desks 2))), ((d_t_deeds_desks 3), .inr (1, [.int (t_deeds_desks_genus 3), .int (t_deeds_desks_size 3), .ref (q_t_deeds_desks 3), .int (t_deeds_desks_limit 3), .long (t_deeds_desks_tree 3)])), ((q_t_deeds_desks 3), .inl (cI, 8, .inl (a_t_deeds_desks 3))), ((d_t_deeds_desks 4), .inr (1, [.int (t_deeds_desks_genus 4), .int (t_deeds_desks_size 4), .ref (q_t_deeds_desks 4), .int (t_deeds_desks_limit 4), .long (t_deeds_desks_tree 4)])), ((q_t_deeds_desks 4), .inl (cI, 8, .inl (a_t_deeds_desks 4))), ((d_t_deeds_desks 5), .inr (1, [.int (t_deeds_desks_genus 5), .int (t_deeds_desks_size 5), .ref (q_t_deeds_desks 5), .int (t_deeds_desks_limit 5), .long (t_deeds_desks_tree 5)])), ((q_t_deeds_desks 5), .inl (cI, 8, .inl (a_t_deeds_desks 5))), ((d_t_deeds_desks 6), .inr (1, [.int (t_deeds_desks_genus 6), .int (t_deeds_desks_size 6), .ref (q_t_deeds_desks 6), .int (t_deeds_desks_limit 6), .long (t_deeds_desks_tree 6)])), ((q_t_deeds_desks 6), .inl (cI, 8, .inl (a_t_deeds_desks 6))), ((d_t_deeds_desks 7), .inr (1, [.int (t_deeds_desks_genus 7), .int (t_deeds_desks_size 7), .ref (q_t_deeds_desks 7), .int (t_deeds_desks_limit 7), .long (t_deeds_desks_tree 7)])), ((q_t_deeds_desks 7), .inl (cI, 8, .inl (a_t_deeds_desks 7))), ((d_t_deeds_desks 8), .inr (1, [.int (t_deeds_desks_genus 8), .int (t_deeds_desks_size 8), .ref (q_t_deeds_desks 8), .int (t_deeds_desks_limit 8), .long (t_deeds_desks_tree 8)])), ((q_t_deeds_desks 8), .inl (cI, 8, .inl (a_t_deeds_desks 8)))] [0, 1, 2, 0, 0, 0, 0, 0, 0, 0, 0, 0, 0, 0, 0, 0, 0, 0, 0, 0, 0, 0, 0] 2 (by decide +kernel) rfl rfl rfl (fun hp7 H locs hP hD hS => ?_)
  exact tJ_X8_order_56 hx hb hr hml hts hown hlocks hK hA x7 _ _ _ hP hD hS (lv_sub hl [0] rfl) h
set_option maxHeartbeats 40000000 in
set_option maxRecDepth 100000 in
theorem tJ_X8_order_27 {l : Launch} {G : va_G} {cI cJ cD cH : ClassId} {h_t : Nat} {h_t_desk : Nat} {h_t_desk_powers : Nat} {h_t_deeds : Nat} {h_t_deeds_desks : Nat} {h_t_imageDesk : Nat} {h_t_numbers : Nat} {h_t_tape : Nat} {h_t_reader : Nat} {h_t_speller : Nat} {h_t_holders : Nat} {d_t_deeds_desks : Nat → Nat} {q_t_deeds_desks : Nat → Nat} {a_t_deeds_desks : Nat → Nat → Int32} {t_deeds_desks_genus : Nat → Int32} {t_deeds_desks_size : Nat → Int32} {t_deeds_desks_limit : Nat → Int32} {t_deeds_desks_tree : Nat → Int64} {t_imageKept : Int32} {t_desk_genus : Int32} {t_desk_size : Int32} {t_desk_limit : Int32} {t_desk_tree : Int64} {t_deeds_now : Int32} {t_deeds_last : Int32} {p0 : Int32} {r0 : Int32} {w0 : Nat → Int32} {w1 : Int32} {w2 : Int32} {w3 : Nat → Nat → Int32} {w4 : Nat → Nat} {w5 : Nat → Int32} {w6 : Nat → Int32} {w7 : Nat → Nat} {w8 : Nat → Int32} {w9 : Nat → Int64} {p : Program} {e : Env} {s : State} {m : MethodId} {below : List Frame} {meth : Method} {c : Code} {A : Nat → Prop} (hx : p.tables.exec = Jvm.exec) (hb : c.code = cX8_order) (hr : meth.sig.returnType = (some .int)) (hml : c.maxLocals = 3) (hts : ∀ w ∈ wsX8_order, w.before ([.ref h_t, .int p0] : List Value).toArray s = true) (hown : s.vm.findClass RX8 = some m.cls) (hlocks : meth.locks = false) (hK : va_K G vwCl (k_T cI cJ cD cH) s) (hA : ∀ q : Nat, s.heap.size ≤ q → A q) : ∀  (vJ27_0 : Nat → Int32) (H : Heap) (locs : List Loc) (ls : Array Slot), va_P G vwCl [(h_t, .inr (7, [.ref h_t_desk, .ref h_t_imageDesk, .ref h_t_deeds, .ref h_t_numbers, .ref h_t_tape, .ref h_t_reader, .ref h_t_speller, .ref h_t_holders, .int t_imageKept])), (h_t_desk, .inr (1, [.int t_desk_genus, .int t_desk_size, .ref h_t_desk_powers, .int t_desk_limit, .long t_desk_tree])), (h_t_desk_powers, .inl (cI, 8, .inl vJ27_0)), (h_t_deeds, .inr (0, [.ref h_t_deeds_desks, .int t_deeds_now, .int t_deeds_last])), (h_t_deeds_desks, .inl (cD, 9, .inr (.inr (.inr (.inr (fun i => some (d_t_deeds_desks i))))))), ((d_t_deeds_desks 0), .inr (1, [.int (t_deeds_desks_genus 0), .int (t_deeds_desks_size 0), .ref (q_t_deeds_desks 0), .int (t_deeds_desks_limit 0), .long (t_deeds_desks_tree 0)])), ((q_t_deeds_desks 0), .inl (cI, 8, .inl (a_t_deeds_desks 0))), ((d_t_deeds_desks 1), .inr (1, [.int (t_deeds_desks_genus 1), .int (t_deeds_desks_size 1), .ref (q_t_deeds_desks 1), .int (t_deeds_desks_limit 1), .long (t_deeds_desks_tree 1)])), ((q_t_deeds_desks 1), .inl (cI, 8, .inl (a_t_deeds_desks 1))), ((d_t_deeds_desks 2), .inr (1, [.int (t_deeds_desks_genus 2), .int (t_deeds_desks_size 2), .ref (q_t_deeds_desks 2), .int (t_deeds_desks_limit 2), .long (t_deeds_desks_tree 2)])), ((q_t_deeds_desks 2), .inl (cI, 8, .inl (a_t_deeds_desks 2))), ((d_t_deeds_desks 3), .inr (1, [.int (t_deeds_desks_genus 3), .int (t_deeds_desks_size 3), .ref (q_t_deeds_desks 3), .int (t_deeds_desks_limit 3), .long (t_deeds_desks_tree 3)])), ((q_t_deeds_desks 3), .inl (cI, 8, .inl (a_t_deeds_desks 3))), ((d_t_deeds_desks 4), .inr (1, [.int (t_deeds_desks_genus 4), .int (t_deeds_desks_size 4), .ref (q_t_deeds_desks 4), .int (t_deeds_desks_limit 4), .long (t_deeds_desks_tree 4)])), ((q_t_deeds_desks 4), .inl (cI, 8, .inl (a_t_deeds_desks 4))), ((d_t_deeds_desks 5), .inr (1, [.int (t_deeds_desks_genus 5), .int (t_deeds_desks_size 5), .ref (q_t_deeds_desks 5), .int (t_deeds_desks_limit 5), .long (t_deeds_desks_tree 5)])), ((q_t_deeds_desks 5), .inl (cI, 8, .inl (a_t_deeds_desks 5))), ((d_t_deeds_desks 6), .inr (1, [.int (t_deeds_desks_genus 6), .int (t_deeds_desks_size 6), .ref (q_t_deeds_desks 6), .int (t_deeds_desks_limit 6), .long (t_deeds_desks_tree 6)])), ((q_t_deeds_desks 6), .inl (cI, 8, .inl (a_t_deeds_desks 6))), ((d_t_deeds_desks 7), .inr (1, [.int (t_deeds_desks_genus 7), .int (t_deeds_desks_size 7), .ref (q_t_deeds_desks 7), .int (t_deeds_desks_limit 7), .long (t_deeds_desks_tree 7)])), ((q_t_deeds_desks 7), .inl (cI, 8, .inl (a_t_deeds_desks 7))), ((d_t_deeds_desks 8), .inr (1, [.int (t_deeds_desks_genus 8), .int (t_deeds_desks_size 8), .ref (q_t_deeds_desks 8), .int (t_deeds_desks_limit 8), .long (t_deeds_desks_tree 8)])), ((q_t_deeds_desks 8), .inl (cI, 8, .inl (a_t_deeds_desks 8)))] H → va_D A [(h_t, .inr (7, [.ref h_t_desk, .ref h_t_imageDesk, .ref h_t_deeds, .ref h_t_numbers, .ref h_t_tape, .ref h_t_reader, .ref h_t_speller, .ref h_t_holders, .int t_imageKept])), (h_t_desk, .inr (1, [.int t_desk_genus, .int t_desk_size, .ref h_t_desk_powers, .int t_desk_limit, .long t_desk_tree])), (h_t_desk_powers, .inl (cI, 8, .inl vJ27_0)), (h_t_deeds, .inr (0, [.ref h_t_deeds_desks, .int t_deeds_now, .int t_deeds_last])), (h_t_deeds_desks, .inl (cD, 9, .inr (.inr (.inr (.inr (fun i => some (d_t_deeds_desks i))))))), ((d_t_deeds_desks 0), .inr (1, [.int (t_deeds_desks_genus 0), .int (t_deeds_desks_size 0), .ref (q_t_deeds_desks 0), .int (t_deeds_desks_limit 0), .long (t_deeds_desks_tree 0)])), ((q_t_deeds_desks 0), .inl (cI, 8, .inl (a_t_deeds_desks 0))), ((d_t_deeds_desks 1), .inr (1, [.int (t_deeds_desks_genus 1), .int (t_deeds_desks_size 1), .ref (q_t_deeds_desks 1), .int (t_deeds_desks_limit 1), .long (t_deeds_desks_tree 1)])), ((q_t_deeds_desks 1), .inl (cI, 8, .inl (a_t_deeds_desks 1))), ((d_t_deeds_desks 2), .inr (1, [.int (t_deeds_desks_genus 2), .int (t_deeds_desks_size 2), .ref (q_t_deeds_desks 2), .int (t_deeds_desks_limit 2), .long (t_deeds_desks_tree 2)])), ((q_t_deeds_desks 2), .inl (cI, 8, .inl (a_t_deeds_desks 2))), ((d_t_deeds_desks 3), .inr (1, [.int (t_deeds_desks_genus 3), .int (t_deeds_desks_size 3), .ref (q_t_deeds_desks 3), .int (t_deeds_desks_limit 3), .long (t_deeds_desks_tree 3)])), ((q_t_deeds_desks 3), .inl (cI, 8, .inl (a_t_deeds_desks 3))), ((d_t_deeds_desks 4), .inr (1, [.int (t_deeds_desks_genus 4), .int (t_deeds_desks_size 4), .ref (q_t_deeds_desks 4), .int (t_deeds_desks_limit 4), .long (t_deeds_desks_tree 4)])), ((q_t_deeds_desks 4), .inl (cI, 8, .inl (a_t_deeds_desks 4))), ((d_t_deeds_desks 5), .inr (1, [.int (t_deeds_desks_genus 5), .int (t_deeds_desks_size 5), .ref (q_t_deeds_desks 5), .int (t_deeds_desks_limit 5), .long (t_deeds_desks_tree 5)])), ((q_t_deeds_desks 5), .inl (cI, 8, .inl (a_t_deeds_desks 5))), ((d_t_deeds_desks 6), .inr (1, [.int (t_deeds_desks_genus 6), .int (t_deeds_desks_size 6), .ref (q_t_deeds_desks 6), .int (t_deeds_desks_limit 6), .long (t_deeds_desks_tree 6)])), ((q_t_deeds_desks 6), .inl (cI, 8, .inl (a_t_deeds_desks 6))), ((d_t_deeds_desks 7), .inr (1, [.int (t_deeds_desks_genus 7), .int (t_deeds_desks_size 7), .ref (q_t_deeds_desks 7), .int (t_deeds_desks_limit 7), .long (t_deeds_desks_tree 7)])), ((q_t_deeds_desks 7), .inl (cI, 8, .inl (a_t_deeds_desks 7))), ((d_t_deeds_desks 8), .inr (1, [.int (t_deeds_desks_genus 8), .int (t_deeds_desks_size 8), .ref (q_t_deeds_desks 8), .int (t_deeds_desks_limit 8), .long (t_deeds_desks_tree 8)])), ((q_t_deeds_desks 8), .inl (cI, 8, .inl (a_t_deeds_desks 8)))] → va_S A s.heap H locs → lv_has ls 3 [(0, .ref h_t), (1, .int p0)] → J_X8_order_27 d_t_deeds_desks q_t_deeds_desks a_t_deeds_desks t_deeds_desks_genus t_deeds_desks_size t_deeds_desks_limit t_deeds_desks_tree t_desk_genus t_desk_size t_desk_limit t_desk_tree t_deeds_now t_deeds_last p0 vJ27_0 = some (r0, w0, w1, w2, w3, w4, w5, w6, w7, w8, w9) → W p l e (headSpec wsX8_order ({ frames := 4, cells := 0, slots := 0, locals := 86 })).room s m ([.ref h_t, .int p0] : List Value).toArray below meth c H locs 0 0 (MQ below (va_Qi (fun r (_ : Unit) => r = r0 ∧ True) (fun _ t => va_P G vwCl [(h_t, .inr (7, [.ref h_t_desk, .ref h_t_imageDesk, .ref h_t_deeds, .ref h_t_numbers, .ref h_t_tape, .ref h_t_reader, .ref h_t_speller, .ref h_t_holders, .int t_imageKept])), (h_t_desk, .inr (1, [.int t_desk_genus, .int t_desk_size, .ref h_t_desk_powers, .int t_desk_limit, .long t_desk_tree])), (h_t_desk_powers, .inl (cI, 8, .inl w0)), (h_t_deeds, .inr (0, [.ref h_t_deeds_desks, .int w1, .int w2])), (h_t_deeds_desks, .inl (cD, 9, .inr (.inr (.inr (.inr (fun i => some (w4 i))))))), ((w4 0), .inr (1, [.int (w5 0), .int (w8 0), .ref (w7 0), .int (w6 0), .long (w9 0)])), ((w7 0), .inl (cI, 8, .inl (w3 0))), ((w4 1), .inr (1, [.int (w5 1), .int (w8 1), .ref (w7 1), .int (w6 1), .long (w9 1)])), ((w7 1), .inl (cI, 8, .inl (w3 1))), ((w4 2), .inr (1, [.int (w5 2), .int (w8 2), .ref (w7 2), .int (w6 2), .long (w9 2)])), ((w7 2), .inl (cI, 8, .inl (w3 2))), ((w4 3), .inr (1, [.int (w5 3), .int (w8 3), .ref (w7 3), .int (w6 3), .long (w9 3)])), ((w7 3), .inl (cI, 8, .inl (w3 3))), ((w4 4), .inr (1, [.int (w5 4), .int (w8 4), .ref (w7 4), .int (w6 4), .long (w9 4)])), ((w7 4), .inl (cI, 8, .inl (w3 4))), ((w4 5), .inr (1, [.int (w5 5), .int (w8 5), .ref (w7 5), .int (w6 5), .long (w9 5)])), ((w7 5), .inl (cI, 8, .inl (w3 5))), ((w4 6), .inr (1, [.int (w5 6), .int (w8 6), .ref (w7 6), .int (w6 6), .long (w9 6)])), ((w7 6), .inl (cI, 8, .inl (w3 6))), ((w4 7), .inr (1, [.int (w5 7), .int (w8 7), .ref (w7 7), .int (w6 7), .long (w9 7)])), ((w7 7), .inl (cI, 8, .inl (w3 7))), ((w4 8), .inr (1, [.int (w5 8), .int (w8 8), .ref (w7 8), .int (w6 8), .long (w9 8)])), ((w7 8), .inl (cI, 8, .inl (w3 8)))] t.heap ∧ va_D A [(h_t, .inr (7, [.ref h_t_desk, .ref h_t_imageDesk, .ref h_t_deeds, .ref h_t_numbers, .ref h_t_tape, .ref h_t_reader, .ref h_t_speller, .ref h_t_holders, .int t_imageKept])), (h_t_desk, .inr (1, [.int t_desk_genus, .int t_desk_size, .ref h_t_desk_powers, .int t_desk_limit, .long t_desk_tree])), (h_t_desk_powers, .inl (cI, 8, .inl w0)), (h_t_deeds, .inr (0, [.ref h_t_deeds_desks, .int w1, .int w2])), (h_t_deeds_desks, .inl (cD, 9, .inr (.inr (.inr (.inr (fun i => some (w4 i))))))), ((w4 0), .inr (1, [.int (w5 0), .int (w8 0), .ref (w7 0), .int (w6 0), .long (w9 0)])), ((w7 0), .inl (cI, 8, .inl (w3 0))), ((w4 1), .inr (1, [.int (w5 1), .int (w8 1), .ref (w7 1), .int (w6 1), .long (w9 1)])), ((w7 1), .inl (cI, 8, .inl (w3 1))), ((w4 2), .inr (1, [.int (w5 2), .int (w8 2), .ref (w7 2), .int (w6 2), .long (w9 2)])), ((w7 2), .inl (cI, 8, .inl (w3 2))), ((w4 3), .inr (1, [.int (w5 3), .int (w8 3), .ref (w7 3), .int (w6 3), .long (w9 3)])), ((w7 3), .inl (cI, 8, .inl (w3 3))), ((w4 4), .inr (1, [.int (w5 4), .int (w8 4), .ref (w7 4), .int (w6 4), .long (w9 4)])), ((w7 4), .inl (cI, 8, .inl (w3 4))), ((w4 5), .inr (1, [.int (w5 5), .int (w8 5), .ref (w7 5), .int (w6 5), .long (w9 5)])), ((w7 5), .inl (cI, 8, .inl (w3 5))), ((w4 6), .inr (1, [.int (w5 6), .int (w8 6), .ref (w7 6), .int (w6 6), .long (w9 6)])), ((w7 6), .inl (cI, 8, .inl (w3 6))), ((w4 7), .inr (1, [.int (w5 7), .int (w8 7), .ref (w7 7), .int (w6 7), .long (w9 7)])), ((w7 7), .inl (cI, 8, .inl (w3 7))), ((w4 8), .inr (1, [.int (w5 8), .int (w8 8), .ref (w7 8), .int (w6 8), .long (w9 8)])), ((w7 8), .inl (cI, 8, .inl (w3 8)))]) A) ([.ref h_t, .int p0] : List Value).toArray s 0 0 A) (F0 m 27 ls []) := by
  have hta : ∀ w ∈ wA, w.before ([.ref h_t, .int p0] : List Value).toArray s = true := hta_of hts
  have hinX8 : ∀ w ∈ wsX80, w ∈ wsX8_order := hin_of in_X8
  intro vJ27_0 H locs ls hP hD hS hl h
  unfold J_X8_order_27 at h
  refine lv_iload_n hx hb dX8_order_27 rfl (lv_at hl 1 rfl) ?_
  refine lv_iconst (v := (1 : Int32)) hx hb dX8_order_28 (by decide) ?_
  have hJ_X8_order_37 : ∀ (H : Heap) (locs : List Loc) (ls : Array Slot), va_P G vwCl [(h_t, .inr (7, [.ref h_t_desk, .ref h_t_imageDesk, .ref h_t_deeds, .ref h_t_numbers, .ref h_t_tape, .ref h_t_reader, .ref h_t_speller, .ref h_t_holders, .int t_imageKept])), (h_t_desk, .inr (1, [.int t_desk_genus, .int t_desk_size, .ref h_t_desk_powers, .int t_desk_limit, .long t_desk_tree])), (h_t_desk_powers, .inl (cI, 8, .inl vJ27_0)), (h_t_deeds, .inr (0, [.ref h_t_deeds_desks, .int t_deeds_now, .int t_deeds_last])), (h_t_deeds_desks, .inl (cD, 9, .inr (.inr (.inr (.inr (fun i => some (d_t_deeds_desks i))))))), ((d_t_deeds_desks 0), .inr (1, [.int (t_deeds_desks_genus 0), .int (t_deeds_desks_size 0), .ref (q_t_deeds_desks 0), .int (t_deeds_desks_limit 0), .long (t_deeds_desks_tree 0)])), ((q_t_deeds_desks 0), .inl (cI, 8, .inl (a_t_deeds_desks 0))), ((d_t_deeds_desks 1), .inr (1, [.int (t_deeds_desks_genus 1), .int (t_deeds_desks_size 1), .ref (q_t_deeds_desks 1), .int (t_deeds_desks_limit 1), .long (t_deeds_desks_tree 1)])), ((q_t_deeds_desks 1), .inl (cI, 8, .inl (a_t_deeds_desks 1))), ((d_t_deeds_desks 2), .inr (1, [.int (t_deeds_desks_genus 2), .int (t_deeds_desks_size 2), .ref (q_t_deeds_desks 2), .int (t_deeds_desks_limit 2), .long (t_deeds_desks_tree 2)])), ((q_t_deeds_desks 2), .inl (cI, 8, .inl (a_t_deeds_desks 2))), ((d_t_deeds_desks 3), .inr (1, [.int (t_deeds_desks_genus 3), .int (t_deeds_desks_size 3), .ref (q_t_deeds_desks 3), .int (t_deeds_desks_limit 3), .long (t_deeds_desks_tree 3)])), ((q_t_deeds_desks 3), .inl (cI, 8, .inl (a_t_deeds_desks 3))), ((d_t_deeds_desks 4), .inr (1, [.int (t_deeds_desks_genus 4), .int (t_deeds_desks_size 4), .ref (q_t_deeds_desks 4), .int (t_deeds_desks_limit 4), .long (t_deeds_desks_tree 4)])), ((q_t_deeds_desks 4), .inl (cI, 8, .inl (a_t_deeds_desks 4))), ((d_t_deeds_desks 5), .inr (1, [.int (t_deeds_desks_genus 5), .int (t_deeds_desks_size 5), .ref (q_t_deeds_desks 5), .int (t_deeds_desks_limit 5), .long (t_deeds_desks_tree 5)])), ((q_t_deeds_desks 5), .inl (cI, 8, .inl (a_t_deeds_desks 5))), ((d_t_deeds_desks 6), .inr (1, [.int (t_deeds_desks_genus 6), .int (t_deeds_desks_size 6), .ref (q_t_deeds_desks 6), .int (t_deeds_desks_limit 6), .long (t_deeds_desks_tree 6)])), ((q_t_deeds_desks 6), .inl (cI, 8, .inl (a_t_deeds_desks 6))), ((d_t_deeds_desks 7), .inr (1, [.int (t_deeds_desks_genus 7), .int (t_deeds_desks_size 7), .ref (q_t_deeds_desks 7), .int (t_deeds_desks_limit 7), .long (t_deeds_desks_tree 7)])), ((q_t_deeds_desks 7), .inl (cI, 8, .inl (a_t_deeds_desks 7))), ((d_t_deeds_desks 8), .inr (1, [.int (t_deeds_desks_genus 8), .int (t_deeds_desks_size 8), .ref (q_t_deeds_desks 8), .int (t_deeds_desks_limit 8), .long (t_deeds_desks_tree 8)])), ((q_t_deeds_desks 8), .inl (cI, 8, .inl (a_t_deeds_desks 8)))] H → va_D A [(h_t, .inr (7, [.ref h_t_desk, .ref h_t_imageDesk, .ref h_t_deeds, .ref h_t_numbers, .ref h_t_tape, .ref h_t_reader, .ref h_t_speller, .ref h_t_holders, .int t_imageKept])), (h_t_desk, .inr (1, [.int t_desk_genus, .int t_desk_size, .ref h_t_desk_powers, .int t_desk_limit, .long t_desk_tree])), (h_t_desk_powers, .inl (cI, 8, .inl vJ27_0)), (h_t_deeds, .inr (0, [.ref h_t_deeds_desks, .int t_deeds_now, .int t_deeds_last])), (h_t_deeds_desks, .inl (cD, 9, .inr (.inr (.inr (.inr (fun i => some (d_t_deeds_desks i))))))), ((d_t_deeds_desks 0), .inr (1, [.int (t_deeds_desks_genus 0), .int (t_deeds_desks_size 0), .ref (q_t_deeds_desks 0), .int (t_deeds_desks_limit 0), .long (t_deeds_desks_tree 0)])), ((q_t_deeds_desks 0), .inl (cI, 8, .inl (a_t_deeds_desks 0))), ((d_t_deeds_desks 1), .inr (1, [.int (t_deeds_desks_genus 1), .int (t_deeds_desks_size 1), .ref (q_t_deeds_desks 1), .int (t_deeds_desks_limit 1), .long (t_deeds_desks_tree 1)])), ((q_t_deeds_desks 1), .inl (cI, 8, .inl (a_t_deeds_desks 1))), ((d_t_deeds_desks 2), .inr (1, [.int (t_deeds_desks_genus 2), .int (t_deeds_desks_size 2), .ref (q_t_deeds_desks 2), .int (t_deeds_desks_limit 2), .long (t_deeds_desks_tree 2)])), ((q_t_deeds_desks 2), .inl (cI, 8, .inl (a_t_deeds_desks 2))), ((d_t_deeds_desks 3), .inr (1, [.int (t_deeds_desks_genus 3), .int (t_deeds_desks_size 3), .ref (q_t_deeds_desks 3), .int (t_deeds_desks_limit 3), .long (t_deeds_desks_tree 3)])), ((q_t_deeds_desks 3), .inl (cI, 8, .inl (a_t_deeds_desks 3))), ((d_t_deeds_desks 4), .inr (1, [.int (t_deeds_desks_genus 4), .int (t_deeds_desks_size 4), .ref (q_t_deeds_desks 4), .int (t_deeds_desks_limit 4), .long (t_deeds_desks_tree 4)])), ((q_t_deeds_desks 4), .inl (cI, 8, .inl (a_t_deeds_desks 4))), ((d_t_deeds_desks 5), .inr (1, [.int (t_deeds_desks_genus 5), .int (t_deeds_desks_size 5), .ref (q_t_deeds_desks 5), .int (t_deeds_desks_limit 5), .long (t_deeds_desks_tree 5)])), ((q_t_deeds_desks 5), .inl (cI, 8, .inl (a_t_deeds_desks 5))), ((d_t_deeds_desks 6), .inr (1, [.int (t_deeds_desks_genus 6), .int (t_deeds_desks_size 6), .ref (q_t_deeds_desks 6), .int (t_deeds_desks_limit 6), .long (t_deeds_desks_tree 6)])), ((q_t_deeds_desks 6), .inl (cI, 8, .inl (a_t_deeds_desks 6))), ((d_t_deeds_desks 7), .inr (1, [.int (t_deeds_desks_genus 7), .int (t_deeds_desks_size 7), .ref (q_t_deeds_desks 7), .int (t_deeds_desks_limit 7), .long (t_deeds_desks_tree 7)])), ((q_t_deeds_desks 7), .inl (cI, 8, .inl (a_t_deeds_desks 7))), ((d_t_deeds_desks 8), .inr (1, [.int (t_deeds_desks_genus 8), .int (t_deeds_desks_size 8), .ref (q_t_deeds_desks 8), .int (t_deeds_desks_limit 8), .long (t_deeds_desks_tree 8)])), ((q_t_deeds_desks 8), .inl (cI, 8, .inl (a_t_deeds_desks 8)))] → va_S A s.heap H locs → lv_has ls 3 [(0, .ref h_t), (1, .int p0)] → J_X8_order_37 d_t_deeds_desks q_t_deeds_desks a_t_deeds_desks t_deeds_desks_genus t_deeds_desks_size t_deeds_desks_limit t_deeds_desks_tree t_desk_genus t_desk_size t_desk_limit t_desk_tree t_deeds_now t_deeds_last p0 vJ27_0 = some (r0, w0, w1, w2, w3, w4, w5, w6, w7, w8, w9) → W p l e (headSpec wsX8_order ({ frames := 4, cells := 0, slots := 0, locals := 86 })).room s m ([.ref h_t, .int p0] : List Value).toArray below meth c H locs 0 0 (MQ below (va_Qi (fun r (_ : Unit) => r = r0 ∧ True) (fun _ t => va_P G vwCl [(h_t, .inr (7, [.ref h_t_desk, .ref h_t_imageDesk, .ref h_t_deeds, .ref h_t_numbers, .ref h_t_tape, .ref h_t_reader, .ref h_t_speller, .ref h_t_holders, .int t_imageKept])), (h_t_desk, .inr (1, [.int t_desk_genus, .int t_desk_size, .ref h_t_desk_powers, .int t_desk_limit, .long t_desk_tree])), (h_t_desk_powers, .inl (cI, 8, .inl w0)), (h_t_deeds, .inr (0, [.ref h_t_deeds_desks, .int w1, .int w2])), (h_t_deeds_desks, .inl (cD, 9, .inr (.inr (.inr (.inr (fun i => some (w4 i))))))), ((w4 0), .inr (1, [.int (w5 0), .int (w8 0), .ref (w7 0), .int (w6 0), .long (w9 0)])), ((w7 0), .inl (cI, 8, .inl (w3 0))), ((w4 1), .inr (1, [.int (w5 1), .int (w8 1), .ref (w7 1), .int (w6 1), .long (w9 1)])), ((w7 1), .inl (cI, 8, .inl (w3 1))), ((w4 2), .inr (1, [.int (w5 2), .int (w8 2), .ref (w7 2), .int (w6 2), .long (w9 2)])), ((w7 2), .inl (cI, 8, .inl (w3 2))), ((w4 3), .inr (1, [.int (w5 3), .int (w8 3), .ref (w7 3), .int (w6 3), .long (w9 3)])), ((w7 3), .inl (cI, 8, .inl (w3 3))), ((w4 4), .inr (1, [.int (w5 4), .int (w8 4), .ref (w7 4), .int (w6 4), .long (w9 4)])), ((w7 4), .inl (cI, 8, .inl (w3 4))), ((w4 5), .inr (1, [.int (w5 5), .int (w8 5), .ref (w7 5), .int (w6 5), .long (w9 5)])), ((w7 5), .inl (cI, 8, .inl (w3 5))), ((w4 6), .inr (1, [.int (w5 6), .int (w8 6), .ref (w7 6), .int (w6 6), .long (w9 6)])), ((w7 6), .inl (cI, 8, .inl (w3 6))), ((w4 7), .inr (1, [.int (w5 7), .int (w8 7), .ref (w7 7), .int (w6 7), .long (w9 7)])), ((w7 7), .inl (cI, 8, .inl (w3 7))), ((w4 8), .inr (1, [.int (w5 8), .int (w8 8), .ref (w7 8), .int (w6 8), .long (w9 8)])), ((w7 8), .inl (cI, 8, .inl (w3 8)))] t.heap ∧ va_D A [(h_t, .inr (7, [.ref h_t_desk, .ref h_t_imageDesk, .ref h_t_deeds, .ref h_t_numbers, .ref h_t_tape, .ref h_t_reader, .ref h_t_speller, .ref h_t_holders, .int t_imageKept])), (h_t_desk, .inr (1, [.int t_desk_genus, .int t_desk_size, .ref h_t_desk_powers, .int t_desk_limit, .long t_desk_tree])), (h_t_desk_powers, .inl (cI, 8, .inl w0)), (h_t_deeds, .inr (0, [.ref h_t_deeds_desks, .int w1, .int w2])), (h_t_deeds_desks, .inl (cD, 9, .inr (.inr (.inr (.inr (fun i => some (w4 i))))))), ((w4 0), .inr (1, [.int (w5 0), .int (w8 0), .ref (w7 0), .int (w6 0), .long (w9 0)])), ((w7 0), .inl (cI, 8, .inl (w3 0))), ((w4 1), .inr (1, [.int (w5 1), .int (w8 1), .ref (w7 1), .int (w6 1), .long (w9 1)])), ((w7 1), .inl (cI, 8, .inl (w3 1))), ((w4 2), .inr (1, [.int (w5 2), .int (w8 2), .ref (w7 2), .int (w6 2), .long (w9 2)])), ((w7 2), .inl (cI, 8, .inl (w3 2))), ((w4 3), .inr (1, [.int (w5 3), .int (w8 3), .ref (w7 3), .int (w6 3), .long (w9 3)])), ((w7 3), .inl (cI, 8, .inl (w3 3))), ((w4 4), .inr (1, [.int (w5 4), .int (w8 4), .ref (w7 4), .int (w6 4), .long (w9 4)])), ((w7 4), .inl (cI, 8, .inl (w3 4))), ((w4 5), .inr (1, [.int (w5 5), .int (w8 5), .ref (w7 5), .int (w6 5), .long (w9 5)])), ((w7 5), .inl (cI, 8, .inl (w3 5))), ((w4 6), .inr (1, [.int (w5 6), .int (w8 6), .ref (w7 6), .int (w6 6), .long (w9 6)])), ((w7 6), .inl (cI, 8, .inl (w3 6))), ((w4 7), .inr (1, [.int (w5 7), .int (w8 7), .ref (w7 7), .int (w6 7), .long (w9 7)])), ((w7 7), .inl (cI, 8, .inl (w3 7))), ((w4 8), .inr (1, [.int (w5 8), .int (w8 8), .ref (w7 8), .int (w6 8), .long (w9 8)])), ((w7 8), .inl (cI, 8, .inl (w3 8)))]) A) ([.ref h_t, .int p0] : List Value).toArray s 0 0 A) (F0 m 37 ls []) := by
    intro  H locs ls hP hD hS hl h
    unfold J_X8_order_37 at h
    refine lv_aload_n hx hb dX8_order_37 rfl (lv_at hl 0 rfl) ?_
    refine va_get (D := G) (ci := 7) (v := .ref h_t_desk) (C := RX8) (T := TX8) (N := 9) hx hb hts hinX8 hown hK hP 0 rfl rfl 0 (by decide) (hta _ mw_358) (fun _ h9 => h9) rfl dX8_order_38 ?_
    obtain ⟨x8, hx8, h⟩ := bd_e h
    try dsimp only at h
    refine k_VvM (n := 0) (As := []) (rest := []) hx hb hml hown hts (c_X1_turnAbout l G cI cJ cD cH H.size h_t_desk h_t_desk_powers t_desk_genus t_desk_size t_desk_limit t_desk_tree vJ27_0 x8 hx8) gX8_order_X1_turnAbout rfl rfl rfl (by decide +kernel) ⟨by first | exact Nat.le_of_ble_eq_true rfl | (simp only [headSpec]; omega), by first | exact Nat.le_of_ble_eq_true rfl | (simp only [headSpec]; omega)⟩ hK hP hD hS hA [1, 2] (by decide) rfl rfl (ci := 1) rfl rfl rfl rfl rfl hl.1 (Nat.le_of_ble_eq_true rfl) dX8_order_41 ⟨Nat.zero_le _, Nat.zero_le _⟩ [(h_t, .inr (7, [.ref h_t_desk, .ref h_t_imageDesk, .ref h_t_deeds, .ref h_t_numbers, .ref h_t_tape, .ref h_t_reader, .ref h_t_speller, .ref h_t_holders, .int t_imageKept])), (h_t_desk, .inr (1, [.int t_desk_genus, .int t_desk_size, .ref h_t_desk_powers, .int t_desk_limit, .long t_desk_tree])), (h_t_desk_powers, .inl (cI, 8, .inl x8)), (h_t_deeds, .inr (0, [.ref h_t_deeds_desks, .int t_deeds_now, .int t_deeds_last])), (h_t_deeds_desks, .inl (cD, 9, .inr (.inr (.inr (.inr (fun i => some (d_t_deeds_desks i))))))), ((d_t_deeds_desks 0), .inr (1, [.int (t_deeds_desks_genus 0), .int (t_deeds_desks_size 0), .ref (q_t_deeds_desks 0), .int (t_deeds_desks_limit 0), .long (t_deeds_desks_tree 0)])), ((q_t_deeds_desks 0), .inl (cI, 8, .inl (a_t_deeds_desks 0))), ((d_t_deeds_desks 1), .inr (1, [.int (t_deeds_desks_genus 1), .int (t_deeds_desks_size 1), .ref (q_t_deeds_desks 1), .int (t_deeds_desks_limit 1), .long (t_deeds_desks_tree 1)])), ((q_t_deeds_desks 1), .inl (cI, 8, .inl (a_t_deeds_desks 1))), ((d_t_deeds_desks 2), .inr (1, [.int (t_deeds_desks_genus 2), .int (t_deeds_desks_size 2), .ref (q_t_deeds_desks 2), .int (t_deeds_desks_limit 2), .long (t_deeds_desks_tree 2)])), ((q_t_deeds_desks 2), .inl (cI, 8, .inl (a_t_deeds_desks 2))), ((d_t_deeds_desks 3), .inr (1, [.int (t_deeds_desks_genus 3), .int (t_deeds_desks_size 3), .ref (q_t_deeds_desks 3), .int (t_deeds_desks_limit 3), .long (t_deeds_desks_tree 3)])), ((q_t_deeds_desks 3), .inl (cI, 8, .inl (a_t_deeds_desks 3))), ((d_t_deeds_desks 4), .inr (1, [.int (t_deeds_desks_genus 4), .int (t_deeds_desks_size 4), .ref (q_t_deeds_desks 4), .int (t_deeds_desks_limit 4), .long (t_deeds_desks_tree 4)])), ((q_t_deeds_desks 4), .inl (cI, 8, .inl (a_t_deeds_desks 4))), ((d_t_deeds_desks 5), .inr (1, [.int (t_deeds_desks_genus 5), .int (t_deeds_desks_size 5), .ref (q_t_deeds_desks 5), .int (t_deeds_desks_limit 5), .long (t_deeds_desks_tree 5)])), ((q_t_deeds_desks 5), .inl (cI, 8, .inl (a_t_deeds_desks 5))), ((d_t_deeds_desks 6), .inr (1, [.int (t_deeds_desks_genus 6), .int (t_deeds_desks_size 6), .ref (q_t_deeds_desks 6), .int (t_deeds_desks_limit 6), .long (t_deeds_desks_tree 6)])), ((q_t_deeds_desks 6), .inl (cI, 8, .inl (a_t_deeds_desks 6))), ((d_t_deeds_desks 7), .inr (1, [.int (t_deeds_desks_genus 7), .int (t_deeds_desks_size 7), .ref (q_t_deeds_desks 7), .int (t_deeds_desks_limit 7), .long (t_deeds_desks_tree 7)])), ((q_t_deeds_desks 7), .inl (cI, 8, .inl (a_t_deeds_desks 7))), ((d_t_deeds_desks 8), .inr (1, [.int (t_deeds_desks_genus 8), .int (t_deeds_desks_size 8), .ref (q_t_deeds_desks 8), .int (t_deeds_desks_limit 8), .long (t_deeds_desks_tree 8)])), ((q_t_deeds_desks 8), .inl (cI, 8, .inl (a_t_deeds_desks 8)))] [0, 1, 2, 0, 0, 0, 0, 0, 0, 0, 0, 0, 0, 0, 0, 0, 0, 0, 0, 0, 0, 0, 0] 2 (by decide +kernel) rfl rfl rfl (fun hp8 H locs hP hD hS => ?_)
    exact tJ_X8_order_44 hx hb hr hml hts hown hlocks hK hA x8 _ _ _ hP hD hS (lv_sub hl [0, 1] rfl) h
  refine lv_icmp_eq (tgt := 37) hx hb dX8_order_29 (by decide) (fun c9 => ?_) (fun c9 => ?_)
  · have h := it_p h c9
    exact hJ_X8_order_37  _ _ _ hP hD hS (lv_sub hl [0, 1] rfl) h
  have h := it_n h c9
  refine lv_iload_n hx hb dX8_order_32 rfl (lv_at hl 1 rfl) ?_
  refine lv_iconst (v := (2 : Int32)) hx hb dX8_order_33 (by decide) ?_
  refine lv_icmp_ne (tgt := 44) hx hb dX8_order_34 (by decide) (fun c10 => ?_) (fun c10 => ?_)
  · have h := it_n h c10
    exact tJ_X8_order_44 hx hb hr hml hts hown hlocks hK hA vJ27_0 _ _ _ hP hD hS (lv_sub hl [0, 1] rfl) h
  have h := it_p h c10
  exact hJ_X8_order_37  _ _ _ hP hD hS (lv_sub hl [0, 1] rfl) h
set_option maxHeartbeats 40000000 in
set_option maxRecDepth 100000 in
theorem c_X8_order (l : Launch) (G : va_G) (cI cJ cD cH : ClassId) (sz : Nat) (h_t : Nat) (h_t_desk : Nat) (h_t_desk_powers : Nat) (h_t_deeds : Nat) (h_t_deeds_desks : Nat) (h_t_imageDesk : Nat) (h_t_numbers : Nat) (h_t_tape : Nat) (h_t_reader : Nat) (h_t_speller : Nat) (h_t_holders : Nat) (d_t_deeds_desks : Nat → Nat) (q_t_deeds_desks : Nat → Nat) (a_t_deeds_desks : Nat → Nat → Int32) (t_deeds_desks_genus : Nat → Int32) (t_deeds_desks_size : Nat → Int32) (t_deeds_desks_limit : Nat → Int32) (t_deeds_desks_tree : Nat → Int64) (t_imageKept : Int32) (t_desk_genus : Int32) (t_desk_size : Int32) (t_desk_limit : Int32) (t_desk_tree : Int64) (a_t_desk_powers : Nat → Int32) (t_deeds_now : Int32) (t_deeds_last : Int32) (p0 : Int32) (r0 : Int32) (w0 : Nat → Int32) (w1 : Int32) (w2 : Int32) (w3 : Nat → Nat → Int32) (w4 : Nat → Nat) (w5 : Nat → Int32) (w6 : Nat → Int32) (w7 : Nat → Nat) (w8 : Nat → Int32) (w9 : Nat → Int64) (hF : F_X8_order d_t_deeds_desks q_t_deeds_desks a_t_deeds_desks t_deeds_desks_genus t_deeds_desks_size t_deeds_desks_limit t_deeds_desks_tree t_desk_genus t_desk_size t_desk_limit t_desk_tree a_t_desk_powers t_deeds_now t_deeds_last p0 = some (r0, w0, w1, w2, w3, w4, w5, w6, w7, w8, w9)) : Met l yX8_order wsX8_order ({ frames := 4, cells := 0, slots := 0, locals := 86 }) (k_pre G (k_T cI cJ cD cH) [(h_t, .inr (7, [.ref h_t_desk, .ref h_t_imageDesk, .ref h_t_deeds, .ref h_t_numbers, .ref h_t_tape, .ref h_t_reader, .ref h_t_speller, .ref h_t_holders, .int t_imageKept])), (h_t_desk, .inr (1, [.int t_desk_genus, .int t_desk_size, .ref h_t_desk_powers, .int t_desk_limit, .long t_desk_tree])), (h_t_desk_powers, .inl (cI, 8, .inl a_t_desk_powers)), (h_t_deeds, .inr (0, [.ref h_t_deeds_desks, .int t_deeds_now, .int t_deeds_last])), (h_t_deeds_desks, .inl (cD, 9, .inr (.inr (.inr (.inr (fun i => some (d_t_deeds_desks i))))))), ((d_t_deeds_desks 0), .inr (1, [.int (t_deeds_desks_genus 0), .int (t_deeds_desks_size 0), .ref (q_t_deeds_desks 0), .int (t_deeds_desks_limit 0), .long (t_deeds_desks_tree 0)])), ((q_t_deeds_desks 0), .inl (cI, 8, .inl (a_t_deeds_desks 0))), ((d_t_deeds_desks 1), .inr (1, [.int (t_deeds_desks_genus 1), .int (t_deeds_desks_size 1), .ref (q_t_deeds_desks 1), .int (t_deeds_desks_limit 1), .long (t_deeds_desks_tree 1)])), ((q_t_deeds_desks 1), .inl (cI, 8, .inl (a_t_deeds_desks 1))), ((d_t_deeds_desks 2), .inr (1, [.int (t_deeds_desks_genus 2), .int (t_deeds_desks_size 2), .ref (q_t_deeds_desks 2), .int (t_deeds_desks_limit 2), .long (t_deeds_desks_tree 2)])), ((q_t_deeds_desks 2), .inl (cI, 8, .inl (a_t_deeds_desks 2))), ((d_t_deeds_desks 3), .inr (1, [.int (t_deeds_desks_genus 3), .int (t_deeds_desks_size 3), .ref (q_t_deeds_desks 3), .int (t_deeds_desks_limit 3), .long (t_deeds_desks_tree 3)])), ((q_t_deeds_desks 3), .inl (cI, 8, .inl (a_t_deeds_desks 3))), ((d_t_deeds_desks 4), .inr (1, [.int (t_deeds_desks_genus 4), .int (t_deeds_desks_size 4), .ref (q_t_deeds_desks 4), .int (t_deeds_desks_limit 4), .long (t_deeds_desks_tree 4)])), ((q_t_deeds_desks 4), .inl (cI, 8, .inl (a_t_deeds_desks 4))), ((d_t_deeds_desks 5), .inr (1, [.int (t_deeds_desks_genus 5), .int (t_deeds_desks_size 5), .ref (q_t_deeds_desks 5), .int (t_deeds_desks_limit 5), .long (t_deeds_desks_tree 5)])), ((q_t_deeds_desks 5), .inl (cI, 8, .inl (a_t_deeds_desks 5))), ((d_t_deeds_desks 6), .inr (1, [.int (t_deeds_desks_genus 6), .int (t_deeds_desks_size 6), .ref (q_t_deeds_desks 6), .int (t_deeds_desks_limit 6), .long (t_deeds_desks_tree 6)])), ((q_t_deeds_desks 6), .inl (cI, 8, .inl (a_t_deeds_desks 6))), ((d_t_deeds_desks 7), .inr (1, [.int (t_deeds_desks_genus 7), .int (t_deeds_desks_size 7), .ref (q_t_deeds_desks 7), .int (t_deeds_desks_limit 7), .long (t_deeds_desks_tree 7)])), ((q_t_deeds_desks 7), .inl (cI, 8, .inl (a_t_deeds_desks 7))), ((d_t_deeds_desks 8), .inr (1, [.int (t_deeds_desks_genus 8), .int (t_deeds_desks_size 8), .ref (q_t_deeds_desks 8), .int (t_deeds_desks_limit 8), .long (t_deeds_desks_tree 8)])), ((q_t_deeds_desks 8), .inl (cI, 8, .inl (a_t_deeds_desks 8)))] sz [.ref h_t, .int p0]) (va_Qi (fun r (_ : Unit) => r = r0 ∧ True) (fun _ t => va_P G vwCl [(h_t, .inr (7, [.ref h_t_desk, .ref h_t_imageDesk, .ref h_t_deeds, .ref h_t_numbers, .ref h_t_tape, .ref h_t_reader, .ref h_t_speller, .ref h_t_holders, .int t_imageKept])), (h_t_desk, .inr (1, [.int t_desk_genus, .int t_desk_size, .ref h_t_desk_powers, .int t_desk_limit, .long t_desk_tree])), (h_t_desk_powers, .inl (cI, 8, .inl w0)), (h_t_deeds, .inr (0, [.ref h_t_deeds_desks, .int w1, .int w2])), (h_t_deeds_desks, .inl (cD, 9, .inr (.inr (.inr (.inr (fun i => some (w4 i))))))), ((w4 0), .inr (1, [.int (w5 0), .int (w8 0), .ref (w7 0), .int (w6 0), .long (w9 0)])), ((w7 0), .inl (cI, 8, .inl (w3 0))), ((w4 1), .inr (1, [.int (w5 1), .int (w8 1), .ref (w7 1), .int (w6 1), .long (w9 1)])), ((w7 1), .inl (cI, 8, .inl (w3 1))), ((w4 2), .inr (1, [.int (w5 2), .int (w8 2), .ref (w7 2), .int (w6 2), .long (w9 2)])), ((w7 2), .inl (cI, 8, .inl (w3 2))), ((w4 3), .inr (1, [.int (w5 3), .int (w8 3), .ref (w7 3), .int (w6 3), .long (w9 3)])), ((w7 3), .inl (cI, 8, .inl (w3 3))), ((w4 4), .inr (1, [.int (w5 4), .int (w8 4), .ref (w7 4), .int (w6 4), .long (w9 4)])), ((w7 4), .inl (cI, 8, .inl (w3 4))), ((w4 5), .inr (1, [.int (w5 5), .int (w8 5), .ref (w7 5), .int (w6 5), .long (w9 5)])), ((w7 5), .inl (cI, 8, .inl (w3 5))), ((w4 6), .inr (1, [.int (w5 6), .int (w8 6), .ref (w7 6), .int (w6 6), .long (w9 6)])), ((w7 6), .inl (cI, 8, .inl (w3 6))), ((w4 7), .inr (1, [.int (w5 7), .int (w8 7), .ref (w7 7), .int (w6 7), .long (w9 7)])), ((w7 7), .inl (cI, 8, .inl (w3 7))), ((w4 8), .inr (1, [.int (w5 8), .int (w8 8), .ref (w7 8), .int (w6 8), .long (w9 8)])), ((w7 8), .inl (cI, 8, .inl (w3 8)))] t.heap ∧ va_D (va_A [(h_t, .inr (7, [.ref h_t_desk, .ref h_t_imageDesk, .ref h_t_deeds, .ref h_t_numbers, .ref h_t_tape, .ref h_t_reader, .ref h_t_speller, .ref h_t_holders, .int t_imageKept])), (h_t_desk, .inr (1, [.int t_desk_genus, .int t_desk_size, .ref h_t_desk_powers, .int t_desk_limit, .long t_desk_tree])), (h_t_desk_powers, .inl (cI, 8, .inl a_t_desk_powers)), (h_t_deeds, .inr (0, [.ref h_t_deeds_desks, .int t_deeds_now, .int t_deeds_last])), (h_t_deeds_desks, .inl (cD, 9, .inr (.inr (.inr (.inr (fun i => some (d_t_deeds_desks i))))))), ((d_t_deeds_desks 0), .inr (1, [.int (t_deeds_desks_genus 0), .int (t_deeds_desks_size 0), .ref (q_t_deeds_desks 0), .int (t_deeds_desks_limit 0), .long (t_deeds_desks_tree 0)])), ((q_t_deeds_desks 0), .inl (cI, 8, .inl (a_t_deeds_desks 0))), ((d_t_deeds_desks 1), .inr (1, [.int (t_deeds_desks_genus 1), .int (t_deeds_desks_size 1), .ref (q_t_deeds_desks 1), .int (t_deeds_desks_limit 1), .long (t_deeds_desks_tree 1)])), ((q_t_deeds_desks 1), .inl (cI, 8, .inl (a_t_deeds_desks 1))), ((d_t_deeds_desks 2), .inr (1, [.int (t_deeds_desks_genus 2), .int (t_deeds_desks_size 2), .ref (q_t_deeds_desks 2), .int (t_deeds_desks_limit 2), .long (t_deeds_desks_tree 2)])), ((q_t_deeds_desks 2), .inl (cI, 8, .inl (a_t_deeds_desks 2))), ((d_t_deeds_desks 3), .inr (1, [.int (t_deeds_desks_genus 3), .int (t_deeds_desks_size 3), .ref (q_t_deeds_desks 3), .int (t_deeds_desks_limit 3), .long (t_deeds_desks_tree 3)])), ((q_t_deeds_desks 3), .inl (cI, 8, .inl (a_t_deeds_desks 3))), ((d_t_deeds_desks 4), .inr (1, [.int (t_deeds_desks_genus 4), .int (t_deeds_desks_size 4), .ref (q_t_deeds_desks 4), .int (t_deeds_desks_limit 4), .long (t_deeds_desks_tree 4)])), ((q_t_deeds_desks 4), .inl (cI, 8, .inl (a_t_deeds_desks 4))), ((d_t_deeds_desks 5), .inr (1, [.int (t_deeds_desks_genus 5), .int (t_deeds_desks_size 5), .ref (q_t_deeds_desks 5), .int (t_deeds_desks_limit 5), .long (t_deeds_desks_tree 5)])), ((q_t_deeds_desks 5), .inl (cI, 8, .inl (a_t_deeds_desks 5))), ((d_t_deeds_desks 6), .inr (1, [.int (t_deeds_desks_genus 6), .int (t_deeds_desks_size 6), .ref (q_t_deeds_desks 6), .int (t_deeds_desks_limit 6), .long (t_deeds_desks_tree 6)])), ((q_t_deeds_desks 6), .inl (cI, 8, .inl (a_t_deeds_desks 6))), ((d_t_deeds_desks 7), .inr (1, [.int (t_deeds_desks_genus 7), .int (t_deeds_desks_size 7), .ref (q_t_deeds_desks 7), .int (t_deeds_desks_limit 7), .long (t_deeds_desks_tree 7)])), ((q_t_deeds_desks 7), .inl (cI, 8, .inl (a_t_deeds_desks 7))), ((d_t_deeds_desks 8), .inr (1, [.int (t_deeds_desks_genus 8), .int (t_deeds_desks_size 8), .ref (q_t_deeds_desks 8), .int (t_deeds_desks_limit 8), .long (t_deeds_desks_tree 8)])), ((q_t_deeds_desks 8), .inl (cI, 8, .inl (a_t_deeds_desks 8)))] sz) [(h_t, .inr (7, [.ref h_t_desk, .ref h_t_imageDesk, .ref h_t_deeds, .ref h_t_numbers, .ref h_t_tape, .ref h_t_reader, .ref h_t_speller, .ref h_t_holders, .int t_imageKept])), (h_t_desk, .inr (1, [.int t_desk_genus, .int t_desk_size, .ref h_t_desk_powers, .int t_desk_limit, .long t_desk_tree])), (h_t_desk_powers, .inl (cI, 8, .inl w0)), (h_t_deeds, .inr (0, [.ref h_t_deeds_desks, .int w1, .int w2])), (h_t_deeds_desks, .inl (cD, 9, .inr (.inr (.inr (.inr (fun i => some (w4 i))))))), ((w4 0), .inr (1, [.int (w5 0), .int (w8 0), .ref (w7 0), .int (w6 0), .long (w9 0)])), ((w7 0), .inl (cI, 8, .inl (w3 0))), ((w4 1), .inr (1, [.int (w5 1), .int (w8 1), .ref (w7 1), .int (w6 1), .long (w9 1)])), ((w7 1), .inl (cI, 8, .inl (w3 1))), ((w4 2), .inr (1, [.int (w5 2), .int (w8 2), .ref (w7 2), .int (w6 2), .long (w9 2)])), ((w7 2), .inl (cI, 8, .inl (w3 2))), ((w4 3), .inr (1, [.int (w5 3), .int (w8 3), .ref (w7 3), .int (w6 3), .long (w9 3)])), ((w7 3), .inl (cI, 8, .inl (w3 3))), ((w4 4), .inr (1, [.int (w5 4), .int (w8 4), .ref (w7 4), .int (w6 4), .long (w9 4)])), ((w7 4), .inl (cI, 8, .inl (w3 4))), ((w4 5), .inr (1, [.int (w5 5), .int (w8 5), .ref (w7 5), .int (w6 5), .long (w9 5)])), ((w7 5), .inl (cI, 8, .inl (w3 5))), ((w4 6), .inr (1, [.int (w5 6), .int (w8 6), .ref (w7 6), .int (w6 6), .long (w9 6)])), ((w7 6), .inl (cI, 8, .inl (w3 6))), ((w4 7), .inr (1, [.int (w5 7), .int (w8 7), .ref (w7 7), .int (w6 7), .long (w9 7)])), ((w7 7), .inl (cI, 8, .inl (w3 7))), ((w4 8), .inr (1, [.int (w5 8), .int (w8 8), .ref (w7 8), .int (w6 8), .long (w9 8)])), ((w7 8), .inl (cI, 8, .inl (w3 8)))]) (va_A [(h_t, .inr (7, [.ref h_t_desk, .ref h_t_imageDesk, .ref h_t_deeds, .ref h_t_numbers, .ref h_t_tape, .ref h_t_reader, .ref h_t_speller, .ref h_t_holders, .int t_imageKept])), (h_t_desk, .inr (1, [.int t_desk_genus, .int t_desk_size, .ref h_t_desk_powers, .int t_desk_limit, .long t_desk_tree])), (h_t_desk_powers, .inl (cI, 8, .inl a_t_desk_powers)), (h_t_deeds, .inr (0, [.ref h_t_deeds_desks, .int t_deeds_now, .int t_deeds_last])), (h_t_deeds_desks, .inl (cD, 9, .inr (.inr (.inr (.inr (fun i => some (d_t_deeds_desks i))))))), ((d_t_deeds_desks 0), .inr (1, [.int (t_deeds_desks_genus 0), .int (t_deeds_desks_size 0), .ref (q_t_deeds_desks 0), .int (t_deeds_desks_limit 0), .long (t_deeds_desks_tree 0)])), ((q_t_deeds_desks 0), .inl (cI, 8, .inl (a_t_deeds_desks 0))), ((d_t_deeds_desks 1), .inr (1, [.int (t_deeds_desks_genus 1), .int (t_deeds_desks_size 1), .ref (q_t_deeds_desks 1), .int (t_deeds_desks_limit 1), .long (t_deeds_desks_tree 1)])), ((q_t_deeds_desks 1), .inl (cI, 8, .inl (a_t_deeds_desks 1))), ((d_t_deeds_desks 2), .inr (1, [.int (t_deeds_desks_genus 2), .int (t_deeds_desks_size 2), .ref (q_t_deeds_desks 2), .int (t_deeds_desks_limit 2), .long (t_deeds_desks_tree 2)])), ((q_t_deeds_desks 2), .inl (cI, 8, .inl (a_t_deeds_desks 2))), ((d_t_deeds_desks 3), .inr (1, [.int (t_deeds_desks_genus 3), .int (t_deeds_desks_size 3), .ref (q_t_deeds_desks 3), .int (t_deeds_desks_limit 3), .long (t_deeds_desks_tree 3)])), ((q_t_deeds_desks 3), .inl (cI, 8, .inl (a_t_deeds_desks 3))), ((d_t_deeds_desks 4), .inr (1, [.int (t_deeds_desks_genus 4), .int (t_deeds_desks_size 4), .ref (q_t_deeds_desks 4), .int (t_deeds_desks_limit 4), .long (t_deeds_desks_tree 4)])), ((q_t_deeds_desks 4), .inl (cI, 8, .inl (a_t_deeds_desks 4))), ((d_t_deeds_desks 5), .inr (1, [.int (t_deeds_desks_genus 5), .int (t_deeds_desks_size 5), .ref (q_t_deeds_desks 5), .int (t_deeds_desks_limit 5), .long (t_deeds_desks_tree 5)])), ((q_t_deeds_desks 5), .inl (cI, 8, .inl (a_t_deeds_desks 5))), ((d_t_deeds_desks 6), .inr (1, [.int (t_deeds_desks_genus 6), .int (t_deeds_desks_size 6), .ref (q_t_deeds_desks 6), .int (t_deeds_desks_limit 6), .long (t_deeds_desks_tree 6)])), ((q_t_deeds_desks 6), .inl (cI, 8, .inl (a_t_deeds_desks 6))), ((d_t_deeds_desks 7), .inr (1, [.int (t_deeds_desks_genus 7), .int (t_deeds_desks_size 7), .ref (q_t_deeds_desks 7), .int (t_deeds_desks_limit 7), .long (t_deeds_desks_tree 7)])), ((q_t_deeds_desks 7), .inl (cI, 8, .inl (a_t_deeds_desks 7))), ((d_t_deeds_desks 8), .inr (1, [.int (t_deeds_desks_genus 8), .int (t_deeds_desks_size 8), .ref (q_t_deeds_desks 8), .int (t_deeds_desks_limit 8), .long (t_deeds_desks_tree 8)])), ((q_t_deeds_desks 8), .inl (cI, 8, .inl (a_t_deeds_desks 8)))] sz)) 0 0 (va_A [(h_t, .inr (7, [.ref h_t_desk, .ref h_t_imageDesk, .ref h_t_deeds, .ref h_t_numbers, .ref h_t_tape, .ref h_t_reader, .ref h_t_speller, .ref h_t_holders, .int t_imageKept])), (h_t_desk, .inr (1, [.int t_desk_genus, .int t_desk_size, .ref h_t_desk_powers, .int t_desk_limit, .long t_desk_tree])), (h_t_desk_powers, .inl (cI, 8, .inl a_t_desk_powers)), (h_t_deeds, .inr (0, [.ref h_t_deeds_desks, .int t_deeds_now, .int t_deeds_last])), (h_t_deeds_desks, .inl (cD, 9, .inr (.inr (.inr (.inr (fun i => some (d_t_deeds_desks i))))))), ((d_t_deeds_desks 0), .inr (1, [.int (t_deeds_desks_genus 0), .int (t_deeds_desks_size 0), .ref (q_t_deeds_desks 0), .int (t_deeds_desks_limit 0), .long (t_deeds_desks_tree 0)])), ((q_t_deeds_desks 0), .inl (cI, 8, .inl (a_t_deeds_desks 0))), ((d_t_deeds_desks 1), .inr (1, [.int (t_deeds_desks_genus 1), .int (t_deeds_desks_size 1), .ref (q_t_deeds_desks 1), .int (t_deeds_desks_limit 1), .long (t_deeds_desks_tree 1)])), ((q_t_deeds_desks 1), .inl (cI, 8, .inl (a_t_deeds_desks 1))), ((d_t_deeds_desks 2), .inr (1, [.int (t_deeds_desks_genus 2), .int (t_deeds_desks_size 2), .ref (q_t_deeds_desks 2), .int (t_deeds_desks_limit 2), .long (t_deeds_desks_tree 2)])), ((q_t_deeds_desks 2), .inl (cI, 8, .inl (a_t_deeds_desks 2))), ((d_t_deeds_desks 3), .inr (1, [.int (t_deeds_desks_genus 3), .int (t_deeds_desks_size 3), .ref (q_t_deeds_desks 3), .int (t_deeds_desks_limit 3), .long (t_deeds_desks_tree 3)])), ((q_t_deeds_desks 3), .inl (cI, 8, .inl (a_t_deeds_desks 3))), ((d_t_deeds_desks 4), .inr (1, [.int (t_deeds_desks_genus 4), .int (t_deeds_desks_size 4), .ref (q_t_deeds_desks 4), .int (t_deeds_desks_limit 4), .long (t_deeds_desks_tree 4)])), ((q_t_deeds_desks 4), .inl (cI, 8, .inl (a_t_deeds_desks 4))), ((d_t_deeds_desks 5), .inr (1, [.int (t_deeds_desks_genus 5), .int (t_deeds_desks_size 5), .ref (q_t_deeds_desks 5), .int (t_deeds_desks_limit 5), .long (t_deeds_desks_tree 5)])), ((q_t_deeds_desks 5), .inl (cI, 8, .inl (a_t_deeds_desks 5))), ((d_t_deeds_desks 6), .inr (1, [.int (t_deeds_desks_genus 6), .int (t_deeds_desks_size 6), .ref (q_t_deeds_desks 6), .int (t_deeds_desks_limit 6), .long (t_deeds_desks_tree 6)])), ((q_t_deeds_desks 6), .inl (cI, 8, .inl (a_t_deeds_desks 6))), ((d_t_deeds_desks 7), .inr (1, [.int (t_deeds_desks_genus 7), .int (t_deeds_desks_size 7), .ref (q_t_deeds_desks 7), .int (t_deeds_desks_limit 7), .long (t_deeds_desks_tree 7)])), ((q_t_deeds_desks 7), .inl (cI, 8, .inl (a_t_deeds_desks 7))), ((d_t_deeds_desks 8), .inr (1, [.int (t_deeds_desks_genus 8), .int (t_deeds_desks_size 8), .ref (q_t_deeds_desks 8), .int (t_deeds_desks_limit 8), .long (t_deeds_desks_tree 8)])), ((q_t_deeds_desks 8), .inl (cI, 8, .inl (a_t_deeds_desks 8)))] sz) := by
  refine Met.ofW (cc := cX8_order) (maxL := 3) (ret := (some .int)) (by decide) rfl ?_
  intro p e s m args below meth c s₁ B hml hv
  obtain ⟨rfl, hsz, hP, hK, hD0⟩ := hv
  have hx := B.exec
  have hb := B.bytes
  have hr := B.returns
  have hts := atoms_spec (ws := wsX8_order) B.pre
  have hta : ∀ w ∈ wA, w.before ([.ref h_t, .int p0] : List Value).toArray s = true := hta_of hts
  have hown : s.vm.findClass RX8 = some m.cls := findClass_of_methodNamed B.named
  have hlocks := B.notSynchronized
  subst hsz
  have hD := hD0.self (sz := s.heap.size)
  generalize hAe : va_A [(h_t, .inr (7, [.ref h_t_desk, .ref h_t_imageDesk, .ref h_t_deeds, .ref h_t_numbers, .ref h_t_tape, .ref h_t_reader, .ref h_t_speller, .ref h_t_holders, .int t_imageKept])), (h_t_desk, .inr (1, [.int t_desk_genus, .int t_desk_size, .ref h_t_desk_powers, .int t_desk_limit, .long t_desk_tree])), (h_t_desk_powers, .inl (cI, 8, .inl a_t_desk_powers)), (h_t_deeds, .inr (0, [.ref h_t_deeds_desks, .int t_deeds_now, .int t_deeds_last])), (h_t_deeds_desks, .inl (cD, 9, .inr (.inr (.inr (.inr (fun i => some (d_t_deeds_desks i))))))), ((d_t_deeds_desks 0), .inr (1, [.int (t_deeds_desks_genus 0), .int (t_deeds_desks_size 0), .ref (q_t_deeds_desks 0), .int (t_deeds_desks_limit 0), .long (t_deeds_desks_tree 0)])), ((q_t_deeds_desks 0), .inl (cI, 8, .inl (a_t_deeds_desks 0))), ((d_t_deeds_desks 1), .inr (1, [.int (t_deeds_desks_genus 1), .int (t_deeds_desks_size 1), .ref (q_t_deeds_desks 1), .int (t_deeds_desks_limit 1), .long (t_deeds_desks_tree 1)])), ((q_t_deeds_desks 1), .inl (cI, 8, .inl (a_t_deeds_desks 1))), ((d_t_deeds_desks 2), .inr (1, [.int (t_deeds_desks_genus 2), .int (t_deeds_desks_size 2), .ref (q_t_deeds_desks 2), .int (t_deeds_desks_limit 2), .long (t_deeds_desks_tree 2)])), ((q_t_deeds_desks 2), .inl (cI, 8, .inl (a_t_deeds_desks 2))), ((d_t_deeds_desks 3), .inr (1, [.int (t_deeds_desks_genus 3), .int (t_deeds_desks_size 3), .ref (q_t_deeds_desks 3), .int (t_deeds_desks_limit 3), .long (t_deeds_desks_tree 3)])), ((q_t_deeds_desks 3), .inl (cI, 8, .inl (a_t_deeds_desks 3))), ((d_t_deeds_desks 4), .inr (1, [.int (t_deeds_desks_genus 4), .int (t_deeds_desks_size 4), .ref (q_t_deeds_desks 4), .int (t_deeds_desks_limit 4), .long (t_deeds_desks_tree 4)])), ((q_t_deeds_desks 4), .inl (cI, 8, .inl (a_t_deeds_desks 4))), ((d_t_deeds_desks 5), .inr (1, [.int (t_deeds_desks_genus 5), .int (t_deeds_desks_size 5), .ref (q_t_deeds_desks 5), .int (t_deeds_desks_limit 5), .long (t_deeds_desks_tree 5)])), ((q_t_deeds_desks 5), .inl (cI, 8, .inl (a_t_deeds_desks 5))), ((d_t_deeds_desks 6), .inr (1, [.int (t_deeds_desks_genus 6), .int (t_deeds_desks_size 6), .ref (q_t_deeds_desks 6), .int (t_deeds_desks_limit 6), .long (t_deeds_desks_tree 6)])), ((q_t_deeds_desks 6), .inl (cI, 8, .inl (a_t_deeds_desks 6))), ((d_t_deeds_desks 7), .inr (1, [.int (t_deeds_desks_genus 7), .int (t_deeds_desks_size 7), .ref (q_t_deeds_desks 7), .int (t_deeds_desks_limit 7), .long (t_deeds_desks_tree 7)])), ((q_t_deeds_desks 7), .inl (cI, 8, .inl (a_t_deeds_desks 7))), ((d_t_deeds_desks 8), .inr (1, [.int (t_deeds_desks_genus 8), .int (t_deeds_desks_size 8), .ref (q_t_deeds_desks 8), .int (t_deeds_desks_limit 8), .long (t_deeds_desks_tree 8)])), ((q_t_deeds_desks 8), .inl (cI, 8, .inl (a_t_deeds_desks 8)))] s.heap.size = A at hD ⊢
  have hA : ∀ q : Nat, s.heap.size ≤ q → A q := fun q h => by rw [← hAe]; exact Or.inr h
  have hS : va_S A s.heap s.heap [] := va_S.rf
  have hl := lv_entry ([.ref h_t, .int p0]) (n := 3) (Nat.le_of_ble_eq_true rfl)
  rw [lg_entry_eq]
  generalize (lg_sl ([.ref h_t, .int p0]) ++ List.replicate (3 - (lg_sl ([.ref h_t, .int p0])).length) Slot.unset).toArray = ls at hl ⊢
  have hl : lv_has ls 3 [(0, .ref h_t), (1, .int p0)] := hl
  have hinX8 : ∀ w ∈ wsX80, w ∈ wsX8_order := hin_of in_X8
  have h := hF
  unfold F_X8_order at h
  refine lv_iload_n hx hb dX8_order_0 rfl (lv_at hl 1 rfl) ?_
  refine lv_if_lt (tgt := 9) hx hb dX8_order_1 (by decide) (fun c1 => ?_) (fun c1 => ?_)
  · have h := it_p h c1
    refine lv_iconst (v := (-1 : Int32)) hx hb dX8_order_9 (by decide) ?_
    have h9 := Option.some.inj h
    have e9 : (-1 : Int32) = r0 := congrArg (fun z9 => z9.1) h9
    rw [← e9]
    have e9 : a_t_desk_powers = w0 := congrArg (fun z9 => z9.2.1) h9
    rw [← e9]
    have e9 : t_deeds_now = w1 := congrArg (fun z9 => z9.2.2.1) h9
    rw [← e9]
    have e9 : t_deeds_last = w2 := congrArg (fun z9 => z9.2.2.2.1) h9
    rw [← e9]
    have e9 : a_t_deeds_desks = w3 := congrArg (fun z9 => z9.2.2.2.2.1) h9
    rw [← e9]
    have e9 : d_t_deeds_desks = w4 := congrArg (fun z9 => z9.2.2.2.2.2.1) h9
    rw [← e9]
    have e9 : t_deeds_desks_genus = w5 := congrArg (fun z9 => z9.2.2.2.2.2.2.1) h9
    rw [← e9]
    have e9 : t_deeds_desks_limit = w6 := congrArg (fun z9 => z9.2.2.2.2.2.2.2.1) h9
    rw [← e9]
    have e9 : q_t_deeds_desks = w7 := congrArg (fun z9 => z9.2.2.2.2.2.2.2.2.1) h9
    rw [← e9]
    have e9 : t_deeds_desks_size = w8 := congrArg (fun z9 => z9.2.2.2.2.2.2.2.2.2.1) h9
    rw [← e9]
    have e9 : t_deeds_desks_tree = w9 := congrArg (fun z9 => z9.2.2.2.2.2.2.2.2.2.2) h9
    rw [← e9]
    exact k_iretP hx hb hr hlocks hD hP hS rfl dX8_order_10
  have h := it_n h c1
  refine lv_iload_n hx hb dX8_order_4 rfl (lv_at hl 1 rfl) ?_
  refine lv_iconst (v := (3 : Int32)) hx hb dX8_order_5 (by decide) ?_
  refine lv_icmp_le (tgt := 11) hx hb dX8_order_6 (by decide) (fun c2 => ?_) (fun c2 => ?_)
  · have h := it_p h c2
    refine lv_iload_n hx hb dX8_order_11 rfl (lv_at hl 1 rfl) ?_
    have hJ_X8_order_20 : ∀ (H : Heap) (locs : List Loc) (ls : Array Slot), va_P G vwCl [(h_t, .inr (7, [.ref h_t_desk, .ref h_t_imageDesk, .ref h_t_deeds, .ref h_t_numbers, .ref h_t_tape, .ref h_t_reader, .ref h_t_speller, .ref h_t_holders, .int t_imageKept])), (h_t_desk, .inr (1, [.int t_desk_genus, .int t_desk_size, .ref h_t_desk_powers, .int t_desk_limit, .long t_desk_tree])), (h_t_desk_powers, .inl (cI, 8, .inl a_t_desk_powers)), (h_t_deeds, .inr (0, [.ref h_t_deeds_desks, .int t_deeds_now, .int t_deeds_last])), (h_t_deeds_desks, .inl (cD, 9, .inr (.inr (.inr (.inr (fun i => some (d_t_deeds_desks i))))))), ((d_t_deeds_desks 0), .inr (1, [.int (t_deeds_desks_genus 0), .int (t_deeds_desks_size 0), .ref (q_t_deeds_desks 0), .int (t_deeds_desks_limit 0), .long (t_deeds_desks_tree 0)])), ((q_t_deeds_desks 0), .inl (cI, 8, .inl (a_t_deeds_desks 0))), ((d_t_deeds_desks 1), .inr (1, [.int (t_deeds_desks_genus 1), .int (t_deeds_desks_size 1), .ref (q_t_deeds_desks 1), .int (t_deeds_desks_limit 1), .long (t_deeds_desks_tree 1)])), ((q_t_deeds_desks 1), .inl (cI, 8, .inl (a_t_deeds_desks 1))), ((d_t_deeds_desks 2), .inr (1, [.int (t_deeds_desks_genus 2), .int (t_deeds_desks_size 2), .ref (q_t_deeds_desks 2), .int (t_deeds_desks_limit 2), .long (t_deeds_desks_tree 2)])), ((q_t_deeds_desks 2), .inl (cI, 8, .inl (a_t_deeds_desks 2))), ((d_t_deeds_desks 3), .inr (1, [.int (t_deeds_desks_genus 3), .int (t_deeds_desks_size 3), .ref (q_t_deeds_desks 3), .int (t_deeds_desks_limit 3), .long (t_deeds_desks_tree 3)])), ((q_t_deeds_desks 3), .inl (cI, 8, .inl (a_t_deeds_desks 3))), ((d_t_deeds_desks 4), .inr (1, [.int (t_deeds_desks_genus 4), .int (t_deeds_desks_size 4), .ref (q_t_deeds_desks 4), .int (t_deeds_desks_limit 4), .long (t_deeds_desks_tree 4)])), ((q_t_deeds_desks 4), .inl (cI, 8, .inl (a_t_deeds_desks 4))), ((d_t_deeds_desks 5), .inr (1, [.int (t_deeds_desks_genus 5), .int (t_deeds_desks_size 5), .ref (q_t_deeds_desks 5), .int (t_deeds_desks_limit 5), .long (t_deeds_desks_tree 5)])), ((q_t_deeds_desks 5), .inl (cI, 8, .inl (a_t_deeds_desks 5))), ((d_t_deeds_desks 6), .inr (1, [.int (t_deeds_desks_genus 6), .int (t_deeds_desks_size 6), .ref (q_t_deeds_desks 6), .int (t_deeds_desks_limit 6), .long (t_deeds_desks_tree 6)])), ((q_t_deeds_desks 6), .inl (cI, 8, .inl (a_t_deeds_desks 6))), ((d_t_deeds_desks 7), .inr (1, [.int (t_deeds_desks_genus 7), .int (t_deeds_desks_size 7), .ref (q_t_deeds_desks 7), .int (t_deeds_desks_limit 7), .long (t_deeds_desks_tree 7)])), ((q_t_deeds_desks 7), .inl (cI, 8, .inl (a_t_deeds_desks 7))), ((d_t_deeds_desks 8), .inr (1, [.int (t_deeds_desks_genus 8), .int (t_deeds_desks_size 8), .ref (q_t_deeds_desks 8), .int (t_deeds_desks_limit 8), .long (t_deeds_desks_tree 8)])), ((q_t_deeds_desks 8), .inl (cI, 8, .inl (a_t_deeds_desks 8)))] H → va_D A [(h_t, .inr (7, [.ref h_t_desk, .ref h_t_imageDesk, .ref h_t_deeds, .ref h_t_numbers, .ref h_t_tape, .ref h_t_reader, .ref h_t_speller, .ref h_t_holders, .int t_imageKept])), (h_t_desk, .inr (1, [.int t_desk_genus, .int t_desk_size, .ref h_t_desk_powers, .int t_desk_limit, .long t_desk_tree])), (h_t_desk_powers, .inl (cI, 8, .inl a_t_desk_powers)), (h_t_deeds, .inr (0, [.ref h_t_deeds_desks, .int t_deeds_now, .int t_deeds_last])), (h_t_deeds_desks, .inl (cD, 9, .inr (.inr (.inr (.inr (fun i => some (d_t_deeds_desks i))))))), ((d_t_deeds_desks 0), .inr (1, [.int (t_deeds_desks_genus 0), .int (t_deeds_desks_size 0), .ref (q_t_deeds_desks 0), .int (t_deeds_desks_limit 0), .long (t_deeds_desks_tree 0)])), ((q_t_deeds_desks 0), .inl (cI, 8, .inl (a_t_deeds_desks 0))), ((d_t_deeds_desks 1), .inr (1, [.int (t_deeds_desks_genus 1), .int (t_deeds_desks_size 1), .ref (q_t_deeds_desks 1), .int (t_deeds_desks_limit 1), .long (t_deeds_desks_tree 1)])), ((q_t_deeds_desks 1), .inl (cI, 8, .inl (a_t_deeds_desks 1))), ((d_t_deeds_desks 2), .inr (1, [.int (t_deeds_desks_genus 2), .int (t_deeds_desks_size 2), .ref (q_t_deeds_desks 2), .int (t_deeds_desks_limit 2), .long (t_deeds_desks_tree 2)])), ((q_t_deeds_desks 2), .inl (cI, 8, .inl (a_t_deeds_desks 2))), ((d_t_deeds_desks 3), .inr (1, [.int (t_deeds_desks_genus 3), .int (t_deeds_desks_size 3), .ref (q_t_deeds_desks 3), .int (t_deeds_desks_limit 3), .long (t_deeds_desks_tree 3)])), ((q_t_deeds_desks 3), .inl (cI, 8, .inl (a_t_deeds_desks 3))), ((d_t_deeds_desks 4), .inr (1, [.int (t_deeds_desks_genus 4), .int (t_deeds_desks_size 4), .ref (q_t_deeds_desks 4), .int (t_deeds_desks_limit 4), .long (t_deeds_desks_tree 4)])), ((q_t_deeds_desks 4), .inl (cI, 8, .inl (a_t_deeds_desks 4))), ((d_t_deeds_desks 5), .inr (1, [.int (t_deeds_desks_genus 5), .int (t_deeds_desks_size 5), .ref (q_t_deeds_desks 5), .int (t_deeds_desks_limit 5), .long (t_deeds_desks_tree 5)])), ((q_t_deeds_desks 5), .inl (cI, 8, .inl (a_t_deeds_desks 5))), ((d_t_deeds_desks 6), .inr (1, [.int (t_deeds_desks_genus 6), .int (t_deeds_desks_size 6), .ref (q_t_deeds_desks 6), .int (t_deeds_desks_limit 6), .long (t_deeds_desks_tree 6)])), ((q_t_deeds_desks 6), .inl (cI, 8, .inl (a_t_deeds_desks 6))), ((d_t_deeds_desks 7), .inr (1, [.int (t_deeds_desks_genus 7), .int (t_deeds_desks_size 7), .ref (q_t_deeds_desks 7), .int (t_deeds_desks_limit 7), .long (t_deeds_desks_tree 7)])), ((q_t_deeds_desks 7), .inl (cI, 8, .inl (a_t_deeds_desks 7))), ((d_t_deeds_desks 8), .inr (1, [.int (t_deeds_desks_genus 8), .int (t_deeds_desks_size 8), .ref (q_t_deeds_desks 8), .int (t_deeds_desks_limit 8), .long (t_deeds_desks_tree 8)])), ((q_t_deeds_desks 8), .inl (cI, 8, .inl (a_t_deeds_desks 8)))] → va_S A s.heap H locs → lv_has ls 3 [(0, .ref h_t), (1, .int p0)] → J_X8_order_20 d_t_deeds_desks q_t_deeds_desks a_t_deeds_desks t_deeds_desks_genus t_deeds_desks_size t_deeds_desks_limit t_deeds_desks_tree t_desk_genus t_desk_size t_desk_limit t_desk_tree a_t_desk_powers t_deeds_now t_deeds_last p0 = some (r0, w0, w1, w2, w3, w4, w5, w6, w7, w8, w9) → W p l e (headSpec wsX8_order ({ frames := 4, cells := 0, slots := 0, locals := 86 })).room s m ([.ref h_t, .int p0] : List Value).toArray below meth c H locs 0 0 (MQ below (va_Qi (fun r (_ : Unit) => r = r0 ∧ True) (fun _ t => va_P G vwCl [(h_t, .inr (7, [.ref h_t_desk, .ref h_t_imageDesk, .ref h_t_deeds, .ref h_t_numbers, .ref h_t_tape, .ref h_t_reader, .ref h_t_speller, .ref h_t_holders, .int t_imageKept])), (h_t_desk, .inr (1, [.int t_desk_genus, .int t_desk_size, .ref h_t_desk_powers, .int t_desk_limit, .long t_desk_tree])), (h_t_desk_powers, .inl (cI, 8, .inl w0)), (h_t_deeds, .inr (0, [.ref h_t_deeds_desks, .int w1, .int w2])), (h_t_deeds_desks, .inl (cD, 9, .inr (.inr (.inr (.inr (fun i => some (w4 i))))))), ((w4 0), .inr (1, [.int (w5 0), .int (w8 0), .ref (w7 0), .int (w6 0), .long (w9 0)])), ((w7 0), .inl (cI, 8, .inl (w3 0))), ((w4 1), .inr (1, [.int (w5 1), .int (w8 1), .ref (w7 1), .int (w6 1), .long (w9 1)])), ((w7 1), .inl (cI, 8, .inl (w3 1))), ((w4 2), .inr (1, [.int (w5 2), .int (w8 2), .ref (w7 2), .int (w6 2), .long (w9 2)])), ((w7 2), .inl (cI, 8, .inl (w3 2))), ((w4 3), .inr (1, [.int (w5 3), .int (w8 3), .ref (w7 3), .int (w6 3), .long (w9 3)])), ((w7 3), .inl (cI, 8, .inl (w3 3))), ((w4 4), .inr (1, [.int (w5 4), .int (w8 4), .ref (w7 4), .int (w6 4), .long (w9 4)])), ((w7 4), .inl (cI, 8, .inl (w3 4))), ((w4 5), .inr (1, [.int (w5 5), .int (w8 5), .ref (w7 5), .int (w6 5), .long (w9 5)])), ((w7 5), .inl (cI, 8, .inl (w3 5))), ((w4 6), .inr (1, [.int (w5 6), .int (w8 6), .ref (w7 6), .int (w6 6), .long (w9 6)])), ((w7 6), .inl (cI, 8, .inl (w3 6))), ((w4 7), .inr (1, [.int (w5 7), .int (w8 7), .ref (w7 7), .int (w6 7), .long (w9 7)])), ((w7 7), .inl (cI, 8, .inl (w3 7))), ((w4 8), .inr (1, [.int (w5 8), .int (w8 8), .ref (w7 8), .int (w6 8), .long (w9 8)])), ((w7 8), .inl (cI, 8, .inl (w3 8)))] t.heap ∧ va_D A [(h_t, .inr (7, [.ref h_t_desk, .ref h_t_imageDesk, .ref h_t_deeds, .ref h_t_numbers, .ref h_t_tape, .ref h_t_reader, .ref h_t_speller, .ref h_t_holders, .int t_imageKept])), (h_t_desk, .inr (1, [.int t_desk_genus, .int t_desk_size, .ref h_t_desk_powers, .int t_desk_limit, .long t_desk_tree])), (h_t_desk_powers, .inl (cI, 8, .inl w0)), (h_t_deeds, .inr (0, [.ref h_t_deeds_desks, .int w1, .int w2])), (h_t_deeds_desks, .inl (cD, 9, .inr (.inr (.inr (.inr (fun i => some (w4 i))))))), ((w4 0), .inr (1, [.int (w5 0), .int (w8 0), .ref (w7 0), .int (w6 0), .long (w9 0)])), ((w7 0), .inl (cI, 8, .inl (w3 0))), ((w4 1), .inr (1, [.int (w5 1), .int (w8 1), .ref (w7 1), .int (w6 1), .long (w9 1)])), ((w7 1), .inl (cI, 8, .inl (w3 1))), ((w4 2), .inr (1, [.int (w5 2), .int (w8 2), .ref (w7 2), .int (w6 2), .long (w9 2)])), ((w7 2), .inl (cI, 8, .inl (w3 2))), ((w4 3), .inr (1, [.int (w5 3), .int (w8 3), .ref (w7 3), .int (w6 3), .long (w9 3)])), ((w7 3), .inl (cI, 8, .inl (w3 3))), ((w4 4), .inr (1, [.int (w5 4), .int (w8 4), .ref (w7 4), .int (w6 4), .long (w9 4)])), ((w7 4), .inl (cI, 8, .inl (w3 4))), ((w4 5), .inr (1, [.int (w5 5), .int (w8 5), .ref (w7 5), .int (w6 5), .long (w9 5)])), ((w7 5), .inl (cI, 8, .inl (w3 5))), ((w4 6), .inr (1, [.int (w5 6), .int (w8 6), .ref (w7 6), .int (w6 6), .long (w9 6)])), ((w7 6), .inl (cI, 8, .inl (w3 6))), ((w4 7), .inr (1, [.int (w5 7), .int (w8 7), .ref (w7 7), .int (w6 7), .long (w9 7)])), ((w7 7), .inl (cI, 8, .inl (w3 7))), ((w4 8), .inr (1, [.int (w5 8), .int (w8 8), .ref (w7 8), .int (w6 8), .long (w9 8)])), ((w7 8), .inl (cI, 8, .inl (w3 8)))]) A) ([.ref h_t, .int p0] : List Value).toArray s 0 0 A) (F0 m 20 ls []) := by
      intro  H locs ls hP hD hS hl h
      unfold J_X8_order_20 at h
      refine lv_aload_n hx hb dX8_order_20 rfl (lv_at hl 0 rfl) ?_
      refine va_get (D := G) (ci := 7) (v := .ref h_t_desk) (C := RX8) (T := TX8) (N := 9) hx hb hts hinX8 hown hK hP 0 rfl rfl 0 (by decide) (hta _ mw_358) (fun _ h9 => h9) rfl dX8_order_21 ?_
      obtain ⟨x11, hx11, h⟩ := bd_e h
      try dsimp only at h
      refine k_VvM (n := 0) (As := []) (rest := []) hx hb hml hown hts (c_X1_sortRising l G cI cJ cD cH H.size h_t_desk h_t_desk_powers t_desk_genus t_desk_size t_desk_limit t_desk_tree a_t_desk_powers x11 hx11) gX8_order_X1_sortRising rfl rfl rfl (by decide +kernel) ⟨by first | exact Nat.le_of_ble_eq_true rfl | (simp only [headSpec]; omega), by first | exact Nat.le_of_ble_eq_true rfl | (simp only [headSpec]; omega)⟩ hK hP hD hS hA [1, 2] (by decide) rfl rfl (ci := 1) rfl rfl rfl rfl rfl hl.1 (Nat.le_of_ble_eq_true rfl) dX8_order_24 ⟨Nat.zero_le _, Nat.zero_le _⟩ [(h_t, .inr (7, [.ref h_t_desk, .ref h_t_imageDesk, .ref h_t_deeds, .ref h_t_numbers, .ref h_t_tape, .ref h_t_reader, .ref h_t_speller, .ref h_t_holders, .int t_imageKept])), (h_t_desk, .inr (1, [.int t_desk_genus, .int t_desk_size, .ref h_t_desk_powers, .int t_desk_limit, .long t_desk_tree])), (h_t_desk_powers, .inl (cI, 8, .inl x11)), (h_t_deeds, .inr (0, [.ref h_t_deeds_desks, .int t_deeds_now, .int t_deeds_last])), (h_t_deeds_desks, .inl (cD, 9, .inr (.inr (.inr (.inr (fun i => some (d_t_deeds_desks i))))))), ((d_t_deeds_desks 0), .inr (1, [.int (t_deeds_desks_genus 0), .int (t_deeds_desks_size 0), .ref (q_t_deeds_desks 0), .int (t_deeds_desks_limit 0), .long (t_deeds_desks_tree 0)])), ((q_t_deeds_desks 0), .inl (cI, 8, .inl (a_t_deeds_desks 0))), ((d_t_deeds_desks 1), .inr (1, [.int (t_deeds_desks_genus 1), .int (t_deeds_desks_size 1), .ref (q_t_deeds_desks 1), .int (t_deeds_desks_limit 1), .long (t_deeds_desks_tree 1)])), ((q_t_deeds_desks 1), .inl (cI, 8, .inl (a_t_deeds_desks 1))), ((d_t_deeds_desks 2), .inr (1, [.int (t_deeds_desks_genus 2), .int (t_deeds_desks_size 2), .ref (q_t_deeds_desks 2), .int (t_deeds_desks_limit 2), .long (t_deeds_desks_tree 2)])), ((q_t_deeds_desks 2), .inl (cI, 8, .inl (a_t_deeds_desks 2))), ((d_t_deeds_desks 3), .inr (1, [.int (t_deeds_desks_genus 3), .int (t_deeds_desks_size 3), .ref (q_t_deeds_desks 3), .int (t_deeds_desks_limit 3), .long (t_deeds_desks_tree 3)])), ((q_t_deeds_desks 3), .inl (cI, 8, .inl (a_t_deeds_desks 3))), ((d_t_deeds_desks 4), .inr (1, [.int (t_deeds_desks_genus 4), .int (t_deeds_desks_size 4), .ref (q_t_deeds_desks 4), .int (t_deeds_desks_limit 4), .long (t_deeds_desks_tree 4)])), ((q_t_deeds_desks 4), .inl (cI, 8, .inl (a_t_deeds_desks 4))), ((d_t_deeds_desks 5), .inr (1, [.int (t_deeds_desks_genus 5), .int (t_deeds_desks_size 5), .ref (q_t_deeds_desks 5), .int (t_deeds_desks_limit 5), .long (t_deeds_desks_tree 5)])), ((q_t_deeds_desks 5), .inl (cI, 8, .inl (a_t_deeds_desks 5))), ((d_t_deeds_desks 6), .inr (1, [.int (t_deeds_desks_genus 6), .int (t_deeds_desks_size 6), .ref (q_t_deeds_desks 6), .int (t_deeds_desks_limit 6), .long (t_deeds_desks_tree 6)])), ((q_t_deeds_desks 6), .inl (cI, 8, .inl (a_t_deeds_desks 6))), ((d_t_deeds_desks 7), .inr (1, [.int (t_deeds_desks_genus 7), .int (t_deeds_desks_size 7), .ref (q_t_deeds_desks 7), .int (t_deeds_desks_limit 7), .long (t_deeds_desks_tree 7)])), ((q_t_deeds_desks 7), .inl (cI, 8, .inl (a_t_deeds_desks 7))), ((d_t_deeds_desks 8), .inr (1, [.int (t_deeds_desks_genus 8), .int (t_deeds_desks_size 8), .ref (q_t_deeds_desks 8), .int (t_deeds_desks_limit 8), .long (t_deeds_desks_tree 8)])), ((q_t_deeds_desks 8), .inl (cI, 8, .inl (a_t_deeds_desks 8)))] [0, 1, 2, 0, 0, 0, 0, 0, 0, 0, 0, 0, 0, 0, 0, 0, 0, 0, 0, 0, 0, 0, 0] 2 (by decide +kernel) rfl rfl rfl (fun hp11 H locs hP hD hS => ?_)
      exact tJ_X8_order_27 hx hb hr hml hts hown hlocks hK hA x11 _ _ _ hP hD hS (lv_sub hl [0, 1] rfl) h
    refine lv_if_eq (tgt := 20) hx hb dX8_order_12 (by decide) (fun c12 => ?_) (fun c12 => ?_)
    · have h := it_p h c12
      exact hJ_X8_order_20  _ _ _ hP hD hS (lv_sub hl [0, 1] rfl) h
    have h := it_n h c12
    refine lv_iload_n hx hb dX8_order_15 rfl (lv_at hl 1 rfl) ?_
    refine lv_iconst (v := (1 : Int32)) hx hb dX8_order_16 (by decide) ?_
    refine lv_icmp_ne (tgt := 27) hx hb dX8_order_17 (by decide) (fun c13 => ?_) (fun c13 => ?_)
    · have h := it_n h c13
      exact tJ_X8_order_27 hx hb hr hml hts hown hlocks hK hA a_t_desk_powers _ _ _ hP hD hS (lv_sub hl [0, 1] rfl) h
    have h := it_p h c13
    exact hJ_X8_order_20  _ _ _ hP hD hS (lv_sub hl [0, 1] rfl) h
  have h := it_n h c2
  refine lv_iconst (v := (-1 : Int32)) hx hb dX8_order_9 (by decide) ?_
  have h9 := Option.some.inj h
  have e9 : (-1 : Int32) = r0 := congrArg (fun z9 => z9.1) h9
  rw [← e9]
  have e9 : a_t_desk_powers = w0 := congrArg (fun z9 => z9.2.1) h9
  rw [← e9]
  have e9 : t_deeds_now = w1 := congrArg (fun z9 => z9.2.2.1) h9
  rw [← e9]
  have e9 : t_deeds_last = w2 := congrArg (fun z9 => z9.2.2.2.1) h9
  rw [← e9]
  have e9 : a_t_deeds_desks = w3 := congrArg (fun z9 => z9.2.2.2.2.1) h9
  rw [← e9]
  have e9 : d_t_deeds_desks = w4 := congrArg (fun z9 => z9.2.2.2.2.2.1) h9
  rw [← e9]
  have e9 : t_deeds_desks_genus = w5 := congrArg (fun z9 => z9.2.2.2.2.2.2.1) h9
  rw [← e9]
  have e9 : t_deeds_desks_limit = w6 := congrArg (fun z9 => z9.2.2.2.2.2.2.2.1) h9
  rw [← e9]
  have e9 : q_t_deeds_desks = w7 := congrArg (fun z9 => z9.2.2.2.2.2.2.2.2.1) h9
  rw [← e9]
  have e9 : t_deeds_desks_size = w8 := congrArg (fun z9 => z9.2.2.2.2.2.2.2.2.2.1) h9
  rw [← e9]
  have e9 : t_deeds_desks_tree = w9 := congrArg (fun z9 => z9.2.2.2.2.2.2.2.2.2.2) h9
  rw [← e9]
  exact k_iretP hx hb hr hlocks hD hP hS rfl dX8_order_10

/-! X8_of -/
set_option maxHeartbeats 4000000 in
set_option maxRecDepth 100000 in
theorem c_X8_of (l : Launch) (G : va_G) (cI cJ cD cH : ClassId) (sz : Nat) (h_t : Nat) (h_t_desk : Nat) (h_t_desk_powers : Nat) (h_t_imageDesk : Nat) (h_t_deeds : Nat) (h_t_numbers : Nat) (h_t_tape : Nat) (h_t_reader : Nat) (h_t_speller : Nat) (h_t_holders : Nat) (t_imageKept : Int32) (t_desk_genus : Int32) (t_desk_size : Int32) (t_desk_limit : Int32) (t_desk_tree : Int64) (a_t_desk_powers : Nat → Int32) (p0 : Int32) (r0 : Int32) (hF : F_X8_of t_desk_size a_t_desk_powers p0 = some r0) : Met l yX8_of wsX8_of ({ frames := 1, cells := 0, slots := 0, locals := 21 }) (k_pre G (k_T cI cJ cD cH) [(h_t, .inr (7, [.ref h_t_desk, .ref h_t_imageDesk, .ref h_t_deeds, .ref h_t_numbers, .ref h_t_tape, .ref h_t_reader, .ref h_t_speller, .ref h_t_holders, .int t_imageKept])), (h_t_desk, .inr (1, [.int t_desk_genus, .int t_desk_size, .ref h_t_desk_powers, .int t_desk_limit, .long t_desk_tree])), (h_t_desk_powers, .inl (cI, 8, .inl a_t_desk_powers))] sz [.ref h_t, .int p0]) (va_Qi (fun r (_ : Unit) => r = r0 ∧ True) (fun _ t => va_P G vwCl [(h_t, .inr (7, [.ref h_t_desk, .ref h_t_imageDesk, .ref h_t_deeds, .ref h_t_numbers, .ref h_t_tape, .ref h_t_reader, .ref h_t_speller, .ref h_t_holders, .int t_imageKept])), (h_t_desk, .inr (1, [.int t_desk_genus, .int t_desk_size, .ref h_t_desk_powers, .int t_desk_limit, .long t_desk_tree])), (h_t_desk_powers, .inl (cI, 8, .inl a_t_desk_powers))] t.heap) (va_A [(h_t, .inr (7, [.ref h_t_desk, .ref h_t_imageDesk, .ref h_t_deeds, .ref h_t_numbers, .ref h_t_tape, .ref h_t_reader, .ref h_t_speller, .ref h_t_holders, .int t_imageKept])), (h_t_desk, .inr (1, [.int t_desk_genus, .int t_desk_size, .ref h_t_desk_powers, .int t_desk_limit, .long t_desk_tree])), (h_t_desk_powers, .inl (cI, 8, .inl a_t_desk_powers))] sz)) 0 0 (va_A [(h_t, .inr (7, [.ref h_t_desk, .ref h_t_imageDesk, .ref h_t_deeds, .ref h_t_numbers, .ref h_t_tape, .ref h_t_reader, .ref h_t_speller, .ref h_t_holders, .int t_imageKept])), (h_t_desk, .inr (1, [.int t_desk_genus, .int t_desk_size, .ref h_t_desk_powers, .int t_desk_limit, .long t_desk_tree])), (h_t_desk_powers, .inl (cI, 8, .inl a_t_desk_powers))] sz) := by
  refine Met.ofW (cc := cX8_of) (maxL := 2) (ret := (some .int)) (by decide) rfl ?_
  intro p e s m args below meth c s₁ B hml hv
  obtain ⟨rfl, hsz, hP, hK, hD0⟩ := hv
  have hx := B.exec
  have hb := B.bytes
  have hr := B.returns
  have hts := atoms_spec (ws := wsX8_of) B.pre
  have hta : ∀ w ∈ wA, w.before ([.ref h_t, .int p0] : List Value).toArray s = true := hta_of hts
  have hown : s.vm.findClass RX8 = some m.cls := findClass_of_methodNamed B.named
  have hlocks := B.notSynchronized
  subst hsz
  have hD := hD0.self (sz := s.heap.size)
  generalize hAe : va_A [(h_t, .inr (7, [.ref h_t_desk, .ref h_t_imageDesk, .ref h_t_deeds, .ref h_t_numbers, .ref h_t_tape, .ref h_t_reader, .ref h_t_speller, .ref h_t_holders, .int t_imageKept])), (h_t_desk, .inr (1, [.int t_desk_genus, .int t_desk_size, .ref h_t_desk_powers, .int t_desk_limit, .long t_desk_tree])), (h_t_desk_powers, .inl (cI, 8, .inl a_t_desk_powers))] s.heap.size = A at hD ⊢
  have hA : ∀ q : Nat, s.heap.size ≤ q → A q := fun q h => by rw [← hAe]; exact Or.inr h
  have hS : va_S A s.heap s.heap [] := va_S.rf
  have hl := lv_entry ([.ref h_t, .int p0]) (n := 2) (Nat.le_of_ble_eq_true rfl)
  rw [lg_entry_eq]
  generalize (lg_sl ([.ref h_t, .int p0]) ++ List.replicate (2 - (lg_sl ([.ref h_t, .int p0])).length) Slot.unset).toArray = ls at hl ⊢
  have hl : lv_has ls 2 [(0, .ref h_t), (1, .int p0)] := hl
  have hinX8 : ∀ w ∈ wsX80, w ∈ wsX8_of := hin_of in_X8
  have h := hF
  unfold F_X8_of at h
  refine lv_aload_n hx hb dX8_of_0 rfl (lv_at hl 0 rfl) ?_
  refine va_get (D := G) (ci := 7) (v := .ref h_t_desk) (C := RX8) (T := TX8) (N := 9) hx hb hts hinX8 hown hK hP 0 rfl rfl 0 (by decide) (hta _ mw_358) (fun _ h9 => h9) rfl dX8_of_1 ?_
  refine lv_iload_n hx hb dX8_of_4 rfl (lv_at hl 1 rfl) ?_
  obtain ⟨x1, hx1, h⟩ := bd_e h
  try dsimp only at h
  refine k_ViU (n := 1) (As := [.int p0]) (rest := []) hx hb hml hown hts (c_X1_hasMark l G cI cJ cD cH s.heap.size h_t_desk h_t_desk_powers t_desk_genus t_desk_size t_desk_limit t_desk_tree p0 x1 hx1) gX8_of_X1_hasMark rfl rfl rfl (by decide +kernel) ⟨by first | exact Nat.le_of_ble_eq_true rfl | (simp only [headSpec]; omega), by first | exact Nat.le_of_ble_eq_true rfl | (simp only [headSpec]; omega)⟩ hK hP hD hS hA [1] (by decide) rfl (ci := 1) rfl rfl rfl rfl rfl hl.1 (Nat.le_of_ble_eq_true rfl) dX8_of_5 ⟨Nat.zero_le _, Nat.zero_le _⟩ (fun hp1 H locs hP hS => ?_)
  refine lv_if_eq (tgt := 22) hx hb dX8_of_8 (by decide) (fun c2 => ?_) (fun c2 => ?_)
  · have h := it_p h c2
    refine lv_iconst (v := (-1 : Int32)) hx hb dX8_of_22 (by decide) ?_
    have h9 := Option.some.inj h
    have e9 : (-1 : Int32) = r0 := congrArg (fun z9 => z9) h9
    rw [← e9]
    exact k_iret hx hb hr hlocks hP hS rfl dX8_of_23
  have h := it_n h c2
  refine lv_aload_n hx hb dX8_of_11 rfl (lv_at hl 0 rfl) ?_
  refine va_get (D := G) (ci := 7) (v := .ref h_t_desk) (C := RX8) (T := TX8) (N := 9) hx hb hts hinX8 hown hK hP 0 rfl rfl 0 (by decide) (hta _ mw_358) (fun _ h9 => h9) rfl dX8_of_12 ?_
  refine lv_iload_n hx hb dX8_of_15 rfl (lv_at hl 1 rfl) ?_
  obtain ⟨x3, hx3, h⟩ := bd_e h
  try dsimp only at h
  refine k_ViU (n := 1) (As := [.int p0]) (rest := []) hx hb hml hown hts (c_X1_powerAt l G cI cJ cD cH H.size h_t_desk h_t_desk_powers t_desk_genus t_desk_size t_desk_limit t_desk_tree a_t_desk_powers p0 x3 hx3) gX8_of_X1_powerAt rfl rfl rfl (by decide +kernel) ⟨by first | exact Nat.le_of_ble_eq_true rfl | (simp only [headSpec]; omega), by first | exact Nat.le_of_ble_eq_true rfl | (simp only [headSpec]; omega)⟩ hK hP hD hS hA [1, 2] (by decide) rfl (ci := 1) rfl rfl rfl rfl rfl hl.1 (Nat.le_of_ble_eq_true rfl) dX8_of_16 ⟨Nat.zero_le _, Nat.zero_le _⟩ (fun hp3 H locs hP hS => ?_)
  refine lv_goto (tgt := 23) hx hb dX8_of_19 (by decide) ?_
  have h9 := Option.some.inj h
  have e9 : x3 = r0 := congrArg (fun z9 => z9) h9
  rw [← e9]
  exact k_iret hx hb hr hlocks hP hS rfl dX8_of_23

/-! X8_isPart -/
set_option maxHeartbeats 4000000 in
set_option maxRecDepth 100000 in
theorem c_X8_isPart (l : Launch) (G : va_G) (cI cJ cD cH : ClassId) (sz : Nat) (p0 : Int32) (r0 : Int32) (hF : F_X8_isPart p0 = some r0) : Met l yX8_isPart wsX8_isPart ({ frames := 0, cells := 0, slots := 0, locals := 0 }) (k_pre G (k_T cI cJ cD cH) [] sz [.int p0]) (va_Qi (fun r (_ : Unit) => r = r0 ∧ narrow .boolean (.int r0) = .int r0) (fun _ t => va_P G vwCl [] t.heap) (va_A [] sz)) 0 0 (va_A [] sz) := by
  refine Met.ofW (cc := cX8_isPart) (maxL := 1) (ret := (some .boolean)) (by decide) rfl ?_
  intro p e s m args below meth c s₁ B hml hv
  obtain ⟨rfl, hsz, hP, hK, hD0⟩ := hv
  have hx := B.exec
  have hb := B.bytes
  have hr := B.returns
  have hts := atoms_spec (ws := wsX8_isPart) B.pre
  have hta : ∀ w ∈ wA, w.before ([.int p0] : List Value).toArray s = true := hta_of hts
  have hown : s.vm.findClass RX8 = some m.cls := findClass_of_methodNamed B.named
  have hlocks := B.notSynchronized
  subst hsz
  have hD := hD0.self (sz := s.heap.size)
  generalize hAe : va_A [] s.heap.size = A at hD ⊢
  have hA : ∀ q : Nat, s.heap.size ≤ q → A q := fun q h => by rw [← hAe]; exact Or.inr h
  have hS : va_S A s.heap s.heap [] := va_S.rf
  have hl := lv_entry ([.int p0]) (n := 1) (Nat.le_of_ble_eq_true rfl)
  rw [lg_entry_eq]
  generalize (lg_sl ([.int p0]) ++ List.replicate (1 - (lg_sl ([.int p0])).length) Slot.unset).toArray = ls at hl ⊢
  have hl : lv_has ls 1 [(0, .int p0)] := hl
  have h := hF
  unfold F_X8_isPart at h
  refine lv_iload_n hx hb dX8_isPart_0 rfl (lv_at hl 0 rfl) ?_
  refine lv_if_eq (tgt := 9) hx hb dX8_isPart_1 (by decide) (fun c1 => ?_) (fun c1 => ?_)
  · have h := it_p h c1
    refine lv_iconst (v := (1 : Int32)) hx hb dX8_isPart_9 (by decide) ?_
    refine lv_goto (tgt := 14) hx hb dX8_isPart_10 (by decide) ?_
    have h9 := Option.some.inj h
    have e9 : (1 : Int32) = r0 := congrArg (fun z9 => z9) h9
    rw [← e9]
    exact k_zret hx hb hr hlocks hP hS rfl rfl dX8_isPart_14
  have h := it_n h c1
  refine lv_iload_n hx hb dX8_isPart_4 rfl (lv_at hl 0 rfl) ?_
  refine lv_iconst (v := (1 : Int32)) hx hb dX8_isPart_5 (by decide) ?_
  refine lv_icmp_ne (tgt := 13) hx hb dX8_isPart_6 (by decide) (fun c2 => ?_) (fun c2 => ?_)
  · have h := it_n h c2
    refine lv_iconst (v := (0 : Int32)) hx hb dX8_isPart_13 (by decide) ?_
    have h9 := Option.some.inj h
    have e9 : (0 : Int32) = r0 := congrArg (fun z9 => z9) h9
    rw [← e9]
    exact k_zret hx hb hr hlocks hP hS rfl rfl dX8_isPart_14
  have h := it_p h c2
  refine lv_iconst (v := (1 : Int32)) hx hb dX8_isPart_9 (by decide) ?_
  refine lv_goto (tgt := 14) hx hb dX8_isPart_10 (by decide) ?_
  have h9 := Option.some.inj h
  have e9 : (1 : Int32) = r0 := congrArg (fun z9 => z9) h9
  rw [← e9]
  exact k_zret hx hb hr hlocks hP hS rfl rfl dX8_isPart_14
