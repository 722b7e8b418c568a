/-! X2_firstUnlike -/
set_option maxHeartbeats 4000000 in
set_option maxRecDepth 100000 in
theorem c_X2_firstUnlike (l : Launch) (G : va_G) (cI cJ cD cH : ClassId) (sz : Nat) (h_t : Nat) (h_t_ints : Nat) (t_sort : Int32) (t_tree : Int64) (t_limit : Int32) (t_above : Int64) (t_size : Int32) (a_t_ints : Nat → Int32) (p0 : Int64) (r0 : Int32) (hF : F_X2_firstUnlike t_size a_t_ints p0 = some r0) : Met l yX2_firstUnlike wsX2_firstUnlike ({ frames := 2, cells := 0, slots := 0, locals := 46 }) (k_pre G (k_T cI cJ cD cH) [(h_t, .inr (2, [.int t_sort, .long t_tree, .int t_limit, .ref h_t_ints, .long t_above, .int t_size])), (h_t_ints, .inl (cI, 20, .inl a_t_ints))] sz [.ref h_t, .long p0]) (va_Qi (fun r (_ : Unit) => r = r0 ∧ True) (fun _ t => va_P G vwCl [(h_t, .inr (2, [.int t_sort, .long t_tree, .int t_limit, .ref h_t_ints, .long t_above, .int t_size])), (h_t_ints, .inl (cI, 20, .inl a_t_ints))] t.heap) (va_A [(h_t, .inr (2, [.int t_sort, .long t_tree, .int t_limit, .ref h_t_ints, .long t_above, .int t_size])), (h_t_ints, .inl (cI, 20, .inl a_t_ints))] sz)) 0 0 (va_A [(h_t, .inr (2, [.int t_sort, .long t_tree, .int t_limit, .ref h_t_ints, .long t_above, .int t_size])), (h_t_ints, .inl (cI, 20, .inl a_t_ints))] sz) := by
  refine Met.ofW (cc := cX2_firstUnlike) (maxL := 6) (ret := (some .int)) (by decide) rfl ?_
  intro p e s m args below meth c s₁ B hml hv
  obtain ⟨rfl, hsz, hP, hK, hD0⟩ := hv
  have hx := B.exec
  have hb := B.bytes
  have hr := B.returns
  have hts := atoms_spec (ws := wsX2_firstUnlike) B.pre
  have hta : ∀ w ∈ wA, w.before ([.ref h_t, .long p0] : List Value).toArray s = true := hta_of hts
  have hown : s.vm.findClass RX2 = some m.cls := findClass_of_methodNamed B.named
  have hlocks := B.notSynchronized
  subst hsz
  have hD := hD0.self (sz := s.heap.size)
  generalize hAe : va_A [(h_t, .inr (2, [.int t_sort, .long t_tree, .int t_limit, .ref h_t_ints, .long t_above, .int t_size])), (h_t_ints, .inl (cI, 20, .inl a_t_ints))] s.heap.size = A at hD ⊢
  have hA : ∀ q : Nat, s.heap.size ≤ q → A q := fun q h => by rw [← hAe]; exact Or.inr h
  have hS : va_S A s.heap s.heap [] := va_S.rf
  have hl := lv_entry ([.ref h_t, .long p0]) (n := 6) (Nat.le_of_ble_eq_true rfl)
  rw [lg_entry_eq]
  generalize (lg_sl ([.ref h_t, .long p0]) ++ List.replicate (6 - (lg_sl ([.ref h_t, .long p0])).length) Slot.unset).toArray = ls at hl ⊢
  have hl : lv_has ls 6 [(0, .ref h_t), (1, .long p0)] := hl
  have hinX2 : ∀ w ∈ wsX20, w ∈ wsX2_firstUnlike := hin_of in_X2
  have h := hF
  unfold F_X2_firstUnlike at h
  refine lv_lload_n hx hb dX2_firstUnlike_0 rfl (lv_at hl 1 rfl) ?_
  obtain ⟨x1, hx1, h⟩ := bd_e h
  try dsimp only at h
  refine k_SiU (n := 1) (As := [.long p0]) (rest := []) hx hb hml hown hts (c_X6_sizeOf l G cI cJ cD cH s.heap.size p0 x1 hx1) gX2_firstUnlike_X6_sizeOf rfl rfl rfl (by decide +kernel) ⟨by first | exact Nat.le_of_ble_eq_true rfl | (simp only [headSpec]; omega), by first | exact Nat.le_of_ble_eq_true rfl | (simp only [headSpec]; omega)⟩ hK hP hD hS hA [] (by decide) rfl rfl rfl hl.1 (Nat.le_of_ble_eq_true rfl) dX2_firstUnlike_1 ⟨Nat.zero_le _, Nat.zero_le _⟩ (fun hp1 H locs hP hS => ?_)
  refine lv_istore_n (lv' := [(3, .int x1), (0, .ref h_t), (1, .long p0)]) hx hb dX2_firstUnlike_4 rfl hl (by decide) rfl (fun ls hl => ?_)
  refine lv_aload_n hx hb dX2_firstUnlike_5 rfl (lv_at hl 1 rfl) ?_
  refine va_get (D := G) (ci := 2) (v := .int t_size) (C := RX2) (T := TX2) (N := 6) hx hb hts hinX2 hown hK hP 0 rfl rfl 5 (by decide) (hta _ mw_75) (fun _ h9 => h9) rfl dX2_firstUnlike_6 ?_
  refine lv_iload_n hx hb dX2_firstUnlike_9 rfl (lv_at hl 0 rfl) ?_
  refine va_mmax hx hb (hml.trans hl.1.symm) hown (hta _ mw_101) (hta _ mw_102) (hta _ mw_103) (hta _ mw_104) (by decide) (by decide) (Nat.zero_le _) (Nat.zero_le _) dX2_firstUnlike_10 ?_
  refine lv_istore (lv' := [(4, .int (if t_size < x1 then x1 else t_size)), (3, .int x1), (0, .ref h_t), (1, .long p0)]) hx hb dX2_firstUnlike_13 hl (by decide) rfl (fun ls hl => ?_)
  refine lv_iconst (v := (0 : Int32)) hx hb dX2_firstUnlike_15 (by decide) ?_
  refine lv_istore (lv' := [(5, .int (0 : Int32)), (4, .int (if t_size < x1 then x1 else t_size)), (3, .int x1), (0, .ref h_t), (1, .long p0)]) hx hb dX2_firstUnlike_16 hl (by decide) rfl (fun ls hl => ?_)
  have hK_X2_firstUnlike_18_65 : ∀ (H : Heap) (locs : List Loc) (ls : Array Slot), va_P G vwCl [(h_t, .inr (2, [.int t_sort, .long t_tree, .int t_limit, .ref h_t_ints, .long t_above, .int t_size])), (h_t_ints, .inl (cI, 20, .inl a_t_ints))] H → va_D A [(h_t, .inr (2, [.int t_sort, .long t_tree, .int t_limit, .ref h_t_ints, .long t_above, .int t_size])), (h_t_ints, .inl (cI, 20, .inl a_t_ints))] → va_S A s.heap H locs → lv_has ls 6 [] → K_X2_firstUnlike_18_65 = some r0 → W p l e (headSpec wsX2_firstUnlike ({ frames := 2, cells := 0, slots := 0, locals := 46 })).room s m ([.ref h_t, .long p0] : List Value).toArray below meth c H locs 0 0 (MQ below (va_Qi (fun r (_ : Unit) => r = r0 ∧ True) (fun _ t => va_P G vwCl [(h_t, .inr (2, [.int t_sort, .long t_tree, .int t_limit, .ref h_t_ints, .long t_above, .int t_size])), (h_t_ints, .inl (cI, 20, .inl a_t_ints))] t.heap) A) ([.ref h_t, .long p0] : List Value).toArray s 0 0 A) (F0 m 65 ls []) := by
    intro  H locs ls hP hD hS hl h
    unfold K_X2_firstUnlike_18_65 at h
    refine lv_iconst (v := (-1 : Int32)) hx hb dX2_firstUnlike_65 (by decide) ?_
    have h9 := Option.some.inj h
    have e9 : (-1 : Int32) = r0 := congrArg (fun z9 => z9) h9
    rw [← e9]
    exact k_iret hx hb hr hlocks hP hS rfl dX2_firstUnlike_66
  have hL18 : ∀ (n18 : Nat) (vL18_0 : Int32) (H : Heap) (locs : List Loc) (ls : Array Slot), va_P G vwCl [(h_t, .inr (2, [.int t_sort, .long t_tree, .int t_limit, .ref h_t_ints, .long t_above, .int t_size])), (h_t_ints, .inl (cI, 20, .inl a_t_ints))] H → va_D A [(h_t, .inr (2, [.int t_sort, .long t_tree, .int t_limit, .ref h_t_ints, .long t_above, .int t_size])), (h_t_ints, .inl (cI, 20, .inl a_t_ints))] → va_S A s.heap H locs → lv_has ls 6 [(0, .ref h_t), (1, .long p0), (3, .int x1), (4, .int (if t_size < x1 then x1 else t_size)), (5, .int vL18_0)] → wq1 (B_X2_firstUnlike_18 t_size a_t_ints p0 x1 K_X2_firstUnlike_18_65) n18 vL18_0 = some r0 → W p l e (headSpec wsX2_firstUnlike ({ frames := 2, cells := 0, slots := 0, locals := 46 })).room s m ([.ref h_t, .long p0] : List Value).toArray below meth c H locs 0 0 (MQ below (va_Qi (fun r (_ : Unit) => r = r0 ∧ True) (fun _ t => va_P G vwCl [(h_t, .inr (2, [.int t_sort, .long t_tree, .int t_limit, .ref h_t_ints, .long t_above, .int t_size])), (h_t_ints, .inl (cI, 20, .inl a_t_ints))] t.heap) A) ([.ref h_t, .long p0] : List Value).toArray s 0 0 A) (F0 m 18 ls []) := by
    intro n18
    induction n18 with
    | zero => intro vL18_0 H locs ls hP hD hS hl h; exact wq1_0 h
    | succ n18 ih18 =>
      intro vL18_0 H locs ls hP hD hS hl h
      have h := wq1_s h
      unfold B_X2_firstUnlike_18 at h
      refine lv_iload hx hb dX2_firstUnlike_18 (lv_at hl 4 rfl) ?_
      refine lv_iload hx hb dX2_firstUnlike_20 (lv_at hl 3 rfl) ?_
      refine lv_icmp_ge (tgt := 65) hx hb dX2_firstUnlike_22 (by decide) (fun c2 => ?_) (fun c2 => ?_)
      · have h := it_p h c2
        exact hK_X2_firstUnlike_18_65  _ _ _ hP hD hS (lv_sub hl [] rfl) h
      have h := it_n h c2
      refine lv_iload hx hb dX2_firstUnlike_25 (lv_at hl 4 rfl) ?_
      refine lv_iload_n hx hb dX2_firstUnlike_27 rfl (lv_at hl 2 rfl) ?_
      refine lv_icmp_ge (tgt := 56) hx hb dX2_firstUnlike_28 (by decide) (fun c3 => ?_) (fun c3 => ?_)
      · have h := it_p h c3
        refine lv_iload hx hb dX2_firstUnlike_56 (lv_at hl 4 rfl) ?_
        have h9 := Option.some.inj h
        have e9 : vL18_0 = r0 := congrArg (fun z9 => z9) h9
        rw [← e9]
        exact k_iret hx hb hr hlocks hP hS rfl dX2_firstUnlike_58
      have h := it_n h c3
      refine lv_aload_n hx hb dX2_firstUnlike_31 rfl (lv_at hl 0 rfl) ?_
      refine lv_iload hx hb dX2_firstUnlike_32 (lv_at hl 4 rfl) ?_
      obtain ⟨x4, hx4, h⟩ := bd_e h
      try dsimp only at h
      refine k_ViU (n := 1) (As := [.int vL18_0]) (rest := []) hx hb hml hown hts (c_X2_hasPlace l G cI cJ cD cH H.size h_t h_t_ints t_sort t_tree t_limit t_above t_size vL18_0 x4 hx4) gX2_firstUnlike_X2_hasPlace rfl rfl rfl (by decide +kernel) ⟨by first | exact Nat.le_of_ble_eq_true rfl | (simp only [headSpec]; omega), by first | exact Nat.le_of_ble_eq_true rfl | (simp only [headSpec]; omega)⟩ hK hP hD hS hA [0] (by decide) rfl (ci := 2) rfl rfl rfl rfl rfl hl.1 (Nat.le_of_ble_eq_true rfl) dX2_firstUnlike_34 ⟨Nat.zero_le _, Nat.zero_le _⟩ (fun hp4 H locs hP hS => ?_)
      refine lv_if_eq (tgt := 56) hx hb dX2_firstUnlike_37 (by decide) (fun c5 => ?_) (fun c5 => ?_)
      · have h := it_p h c5
        refine lv_iload hx hb dX2_firstUnlike_56 (lv_at hl 4 rfl) ?_
        have h9 := Option.some.inj h
        have e9 : vL18_0 = r0 := congrArg (fun z9 => z9) h9
        rw [← e9]
        exact k_iret hx hb hr hlocks hP hS rfl dX2_firstUnlike_58
      have h := it_n h c5
      refine lv_aload_n hx hb dX2_firstUnlike_40 rfl (lv_at hl 0 rfl) ?_
      refine va_get (D := G) (ci := 2) (v := .ref h_t_ints) (C := RX2) (T := TX2) (N := 6) hx hb hts hinX2 hown hK hP 0 rfl rfl 3 (by decide) (hta _ mw_67) (fun _ h9 => h9) rfl dX2_firstUnlike_41 ?_
      refine lv_iload hx hb dX2_firstUnlike_44 (lv_at hl 4 rfl) ?_
      obtain ⟨hn6, h⟩ := ck_e h
      refine va_iald hx hb hK hP 1 0 rfl rfl hn6 dX2_firstUnlike_46 ?_
      refine lv_lload_n hx hb dX2_firstUnlike_47 rfl (lv_at hl 1 rfl) ?_
      refine lv_iload hx hb dX2_firstUnlike_48 (lv_at hl 4 rfl) ?_
      obtain ⟨x7, hx7, h⟩ := bd_e h
      try dsimp only at h
      refine k_SiU (n := 2) (As := [.long p0, .int vL18_0]) (rest := [.int (a_t_ints vL18_0.toNatClampNeg)]) hx hb hml hown hts (c_X6_nth l G cI cJ cD cH H.size p0 vL18_0 x7 hx7) gX2_firstUnlike_X6_nth rfl rfl rfl (by decide +kernel) ⟨by first | exact Nat.le_of_ble_eq_true rfl | (simp only [headSpec]; omega), by first | exact Nat.le_of_ble_eq_true rfl | (simp only [headSpec]; omega)⟩ hK hP hD hS hA [] (by decide) rfl rfl rfl hl.1 (Nat.le_of_ble_eq_true rfl) dX2_firstUnlike_50 ⟨Nat.zero_le _, Nat.zero_le _⟩ (fun hp7 H locs hP hS => ?_)
      refine lv_icmp_eq (tgt := 59) hx hb dX2_firstUnlike_53 (by decide) (fun c8 => ?_) (fun c8 => ?_)
      · have h := it_p h c8
        refine lv_iinc (v := (vL18_0 + (1 : Int32))) (lv' := [(5, .int (vL18_0 + (1 : Int32))), (0, .ref h_t), (1, .long p0), (3, .int x1), (4, .int (if t_size < x1 then x1 else t_size))]) hx hb dX2_firstUnlike_59 hl (k := 4) rfl (by first | rfl | decide) (by decide) rfl (fun ls hl => ?_)
        refine lv_goto (tgt := 18) hx hb dX2_firstUnlike_62 (by decide) ?_
        exact ih18 (vL18_0 + (1 : Int32)) _ _ _ hP hD hS (lv_sub hl [1, 2, 3, 4, 0] rfl) h
      have h := it_n h c8
      refine lv_iload hx hb dX2_firstUnlike_56 (lv_at hl 4 rfl) ?_
      have h9 := Option.some.inj h
      have e9 : vL18_0 = r0 := congrArg (fun z9 => z9) h9
      rw [← e9]
      exact k_iret hx hb hr hlocks hP hS rfl dX2_firstUnlike_58
  exact hL18 FU (0 : Int32) _ _ _ hP hD hS (lv_sub hl [3, 4, 2, 1, 0] rfl) h

/-! X3_lineOf -/
set_option maxHeartbeats 4000000 in
set_option maxRecDepth 100000 in
theorem c_X3_lineOf (l : Launch) (G : va_G) (cI cJ cD cH : ClassId) (sz : Nat) (p0 : Int32) (r0 : Int64) (hF : F_X3_lineOf p0 = some r0) : Met l yX3_lineOf wsX3_lineOf ({ frames := 0, cells := 0, slots := 0, locals := 0 }) (k_pre G (k_T cI cJ cD cH) [] sz [.int p0]) (va_Ql (fun r (_ : Unit) => r = r0 ∧ True) (fun _ t => va_P G vwCl [] t.heap) (va_A [] sz)) 0 0 (va_A [] sz) := by
  refine Met.ofW (cc := cX3_lineOf) (maxL := 1) (ret := (some .long)) (by decide) rfl ?_
  intro p e s m args below meth c s₁ B hml hv
  obtain ⟨rfl, hsz, hP, hK, hD0⟩ := hv
  have hx := B.exec
  have hb := B.bytes
  have hr := B.returns
  have hts := atoms_spec (ws := wsX3_lineOf) B.pre
  have hta : ∀ w ∈ wA, w.before ([.int p0] : List Value).toArray s = true := hta_of hts
  have hown : s.vm.findClass RX3 = some m.cls := findClass_of_methodNamed B.named
  have hlocks := B.notSynchronized
  subst hsz
  have hD := hD0.self (sz := s.heap.size)
  generalize hAe : va_A [] s.heap.size = A at hD ⊢
  have hA : ∀ q : Nat, s.heap.size ≤ q → A q := fun q h => by rw [← hAe]; exact Or.inr h
  have hS : va_S A s.heap s.heap [] := va_S.rf
  have hl := lv_entry ([.int p0]) (n := 1) (Nat.le_of_ble_eq_true rfl)
  rw [lg_entry_eq]
  generalize (lg_sl ([.int p0]) ++ List.replicate (1 - (lg_sl ([.int p0])).length) Slot.unset).toArray = ls at hl ⊢
  have hl : lv_has ls 1 [(0, .int p0)] := hl
  have h := hF
  unfold F_X3_lineOf at h
  refine lv_iload_n hx hb dX3_lineOf_0 rfl (lv_at hl 0 rfl) ?_
  refine lv_if_ne (tgt := 6) hx hb dX3_lineOf_1 (by decide) (fun c1 => ?_) (fun c1 => ?_)
  rotate_left
  · have h := it_p h c1
    refine lv_lconst (v := (1 : Int64)) hx hb dX3_lineOf_4 (by decide) ?_
    have h9 := Option.some.inj h
    have e9 : (1 : Int64) = r0 := congrArg (fun z9 => z9) h9
    rw [← e9]
    exact k_lret hx hb hr hlocks hP hS rfl dX3_lineOf_5
  have h := it_n h c1
  refine lv_iload_n hx hb dX3_lineOf_6 rfl (lv_at hl 0 rfl) ?_
  refine lv_iconst (v := (1 : Int32)) hx hb dX3_lineOf_7 (by decide) ?_
  refine lv_icmp_ne (tgt := 17) hx hb dX3_lineOf_8 (by decide) (fun c2 => ?_) (fun c2 => ?_)
  · have h := it_n h c2
    refine lv_ldc2 (v := (5760 : Int64)) hx hb hown (hta _ mw_119) dX3_lineOf_17 ?_
    have h9 := Option.some.inj h
    have e9 : (5760 : Int64) = r0 := congrArg (fun z9 => z9) h9
    rw [← e9]
    exact k_lret hx hb hr hlocks hP hS rfl dX3_lineOf_20
  have h := it_p h c2
  refine lv_ldc2 (v := (24 : Int64)) hx hb hown (hta _ mw_118) dX3_lineOf_11 ?_
  refine lv_goto (tgt := 20) hx hb dX3_lineOf_14 (by decide) ?_
  have h9 := Option.some.inj h
  have e9 : (24 : Int64) = r0 := congrArg (fun z9 => z9) h9
  rw [← e9]
  exact k_lret hx hb hr hlocks hP hS rfl dX3_lineOf_20

/-! X3_begin -/
set_option maxHeartbeats 4000000 in
set_option maxRecDepth 100000 in
theorem c_X3_begin (l : Launch) (G : va_G) (cI cJ cD cH : ClassId) (sz : Nat) (h_t : Nat) (h_t_keys : Nat) (h_t_aboves : Nat) (h_t_rounds : Nat) (t_round : Int32) (t_size : Int32) (t_sum : Int32) (t_gathered : Int64) (w0 : Int32) (w1 : Int32) (w2 : Int64) (hF : F_X3_begin  = some (w0, w1, w2)) : Met l yX3_begin wsX3_begin ({ frames := 0, cells := 0, slots := 0, locals := 0 }) (k_pre G (k_T cI cJ cD cH) [(h_t, .inr (3, [.ref h_t_keys, .ref h_t_aboves, .ref h_t_rounds, .int t_round, .int t_size, .int t_sum, .long t_gathered]))] sz [.ref h_t]) (va_Qv (fun (_ : Unit) => True) (fun _ t => va_P G vwCl [(h_t, .inr (3, [.ref h_t_keys, .ref h_t_aboves, .ref h_t_rounds, .int t_round, .int w0, .int w1, .long w2]))] t.heap) (va_A [(h_t, .inr (3, [.ref h_t_keys, .ref h_t_aboves, .ref h_t_rounds, .int t_round, .int t_size, .int t_sum, .long t_gathered]))] sz)) 0 0 (va_A [(h_t, .inr (3, [.ref h_t_keys, .ref h_t_aboves, .ref h_t_rounds, .int t_round, .int t_size, .int t_sum, .long t_gathered]))] sz) := by
  refine Met.ofW (cc := cX3_begin) (maxL := 1) (ret := none) (by decide) rfl ?_
  intro p e s m args below meth c s₁ B hml hv
  obtain ⟨rfl, hsz, hP, hK, hD0⟩ := hv
  have hx := B.exec
  have hb := B.bytes
  have hr := B.returns
  have hts := atoms_spec (ws := wsX3_begin) B.pre
  have hta : ∀ w ∈ wA, w.before ([.ref h_t] : List Value).toArray s = true := hta_of hts
  have hown : s.vm.findClass RX3 = some m.cls := findClass_of_methodNamed B.named
  have hlocks := B.notSynchronized
  subst hsz
  have hD := hD0.self (sz := s.heap.size)
  generalize hAe : va_A [(h_t, .inr (3, [.ref h_t_keys, .ref h_t_aboves, .ref h_t_rounds, .int t_round, .int t_size, .int t_sum, .long t_gathered]))] s.heap.size = A at hD ⊢
  have hA : ∀ q : Nat, s.heap.size ≤ q → A q := fun q h => by rw [← hAe]; exact Or.inr h
  have hS : va_S A s.heap s.heap [] := va_S.rf
  have hl := lv_entry ([.ref h_t]) (n := 1) (Nat.le_of_ble_eq_true rfl)
  rw [lg_entry_eq]
  generalize (lg_sl ([.ref h_t]) ++ List.replicate (1 - (lg_sl ([.ref h_t])).length) Slot.unset).toArray = ls at hl ⊢
  have hl : lv_has ls 1 [(0, .ref h_t)] := hl
  have hinX3 : ∀ w ∈ wsX30, w ∈ wsX3_begin := hin_of in_X3
  have h := hF
  unfold F_X3_begin at h
  refine lv_aload_n hx hb dX3_begin_0 rfl (lv_at hl 0 rfl) ?_
  refine lv_iconst (v := (0 : Int32)) hx hb dX3_begin_1 (by decide) ?_
  refine va_put (D := G) (ci := 3) (v := .int (0 : Int32)) (ty := .int) (C := RX3) (T := TX3) (N := 7) hx hb hts hinX3 tyX3 tyX3_ok nmX3 hown hK hP hD hS 0 rfl rfl 4 (by decide) (hta _ mw_121) (fun _ h9 => h9) rfl (by decide +kernel) rfl rfl (Nat.le_of_ble_eq_true rfl) dX3_begin_2 (fun H locs hP hD hS => ?_)
  have hP : va_P G vwCl [(h_t, .inr (3, [.ref h_t_keys, .ref h_t_aboves, .ref h_t_rounds, .int t_round, .int (0 : Int32), .int t_sum, .long t_gathered]))] H := hP
  have hD : va_D A [(h_t, .inr (3, [.ref h_t_keys, .ref h_t_aboves, .ref h_t_rounds, .int t_round, .int (0 : Int32), .int t_sum, .long t_gathered]))] := hD
  refine lv_aload_n hx hb dX3_begin_5 rfl (lv_at hl 0 rfl) ?_
  refine lv_iconst (v := (0 : Int32)) hx hb dX3_begin_6 (by decide) ?_
  refine va_put (D := G) (ci := 3) (v := .int (0 : Int32)) (ty := .int) (C := RX3) (T := TX3) (N := 7) hx hb hts hinX3 tyX3 tyX3_ok nmX3 hown hK hP hD hS 0 rfl rfl 5 (by decide) (hta _ mw_122) (fun _ h9 => h9) rfl (by decide +kernel) rfl rfl (Nat.le_of_ble_eq_true rfl) dX3_begin_7 (fun H locs hP hD hS => ?_)
  have hP : va_P G vwCl [(h_t, .inr (3, [.ref h_t_keys, .ref h_t_aboves, .ref h_t_rounds, .int t_round, .int (0 : Int32), .int (0 : Int32), .long t_gathered]))] H := hP
  have hD : va_D A [(h_t, .inr (3, [.ref h_t_keys, .ref h_t_aboves, .ref h_t_rounds, .int t_round, .int (0 : Int32), .int (0 : Int32), .long t_gathered]))] := hD
  refine lv_aload_n hx hb dX3_begin_10 rfl (lv_at hl 0 rfl) ?_
  refine lv_lconst (v := (0 : Int64)) hx hb dX3_begin_11 (by decide) ?_
  refine va_put (D := G) (ci := 3) (v := .long (0 : Int64)) (ty := .long) (C := RX3) (T := TX3) (N := 7) hx hb hts hinX3 tyX3 tyX3_ok nmX3 hown hK hP hD hS 0 rfl rfl 6 (by decide) (hta _ mw_123) (fun _ h9 => h9) rfl (by decide +kernel) rfl rfl (Nat.le_of_ble_eq_true rfl) dX3_begin_12 (fun H locs hP hD hS => ?_)
  have hP : va_P G vwCl [(h_t, .inr (3, [.ref h_t_keys, .ref h_t_aboves, .ref h_t_rounds, .int t_round, .int (0 : Int32), .int (0 : Int32), .long (0 : Int64)]))] H := hP
  have hD : va_D A [(h_t, .inr (3, [.ref h_t_keys, .ref h_t_aboves, .ref h_t_rounds, .int t_round, .int (0 : Int32), .int (0 : Int32), .long (0 : Int64)]))] := hD
  have h9 := Option.some.inj h
  have e9 : (0 : Int32) = w0 := congrArg (fun z9 => z9.1) h9
  rw [← e9]
  have e9 : (0 : Int32) = w1 := congrArg (fun z9 => z9.2.1) h9
  rw [← e9]
  have e9 : (0 : Int64) = w2 := congrArg (fun z9 => z9.2.2) h9
  rw [← e9]
  exact k_vret hx hb hr hlocks hP hS dX3_begin_15

/-! X3_add -/
set_option maxHeartbeats 4000000 in
set_option maxRecDepth 100000 in
theorem c_X3_add (l : Launch) (G : va_G) (cI cJ cD cH : ClassId) (sz : Nat) (h_t : Nat) (h_t_keys : Nat) (h_t_aboves : Nat) (h_t_rounds : Nat) (t_round : Int32) (t_size : Int32) (t_sum : Int32) (t_gathered : Int64) (p0 : Int32) (w0 : Int32) (w1 : Int32) (w2 : Int64) (hF : F_X3_add t_size t_sum t_gathered p0 = some (w0, w1, w2)) : Met l yX3_add wsX3_add ({ frames := 0, cells := 0, slots := 0, locals := 0 }) (k_pre G (k_T cI cJ cD cH) [(h_t, .inr (3, [.ref h_t_keys, .ref h_t_aboves, .ref h_t_rounds, .int t_round, .int t_size, .int t_sum, .long t_gathered]))] sz [.ref h_t, .int p0]) (va_Qv (fun (_ : Unit) => True) (fun _ t => va_P G vwCl [(h_t, .inr (3, [.ref h_t_keys, .ref h_t_aboves, .ref h_t_rounds, .int t_round, .int w0, .int w1, .long w2]))] t.heap) (va_A [(h_t, .inr (3, [.ref h_t_keys, .ref h_t_aboves, .ref h_t_rounds, .int t_round, .int t_size, .int t_sum, .long t_gathered]))] sz)) 0 0 (va_A [(h_t, .inr (3, [.ref h_t_keys, .ref h_t_aboves, .ref h_t_rounds, .int t_round, .int t_size, .int t_sum, .long t_gathered]))] sz) := by
  refine Met.ofW (cc := cX3_add) (maxL := 2) (ret := none) (by decide) rfl ?_
  intro p e s m args below meth c s₁ B hml hv
  obtain ⟨rfl, hsz, hP, hK, hD0⟩ := hv
  have hx := B.exec
  have hb := B.bytes
  have hr := B.returns
  have hts := atoms_spec (ws := wsX3_add) B.pre
  have hta : ∀ w ∈ wA, w.before ([.ref h_t, .int p0] : List Value).toArray s = true := hta_of hts
  have hown : s.vm.findClass RX3 = some m.cls := findClass_of_methodNamed B.named
  have hlocks := B.notSynchronized
  subst hsz
  have hD := hD0.self (sz := s.heap.size)
  generalize hAe : va_A [(h_t, .inr (3, [.ref h_t_keys, .ref h_t_aboves, .ref h_t_rounds, .int t_round, .int t_size, .int t_sum, .long t_gathered]))] s.heap.size = A at hD ⊢
  have hA : ∀ q : Nat, s.heap.size ≤ q → A q := fun q h => by rw [← hAe]; exact Or.inr h
  have hS : va_S A s.heap s.heap [] := va_S.rf
  have hl := lv_entry ([.ref h_t, .int p0]) (n := 2) (Nat.le_of_ble_eq_true rfl)
  rw [lg_entry_eq]
  generalize (lg_sl ([.ref h_t, .int p0]) ++ List.replicate (2 - (lg_sl ([.ref h_t, .int p0])).length) Slot.unset).toArray = ls at hl ⊢
  have hl : lv_has ls 2 [(0, .ref h_t), (1, .int p0)] := hl
  have hinX3 : ∀ w ∈ wsX30, w ∈ wsX3_add := hin_of in_X3
  have h := hF
  unfold F_X3_add at h
  refine lv_aload_n hx hb dX3_add_0 rfl (lv_at hl 0 rfl) ?_
  refine lv_dup hx hb dX3_add_1 rfl ?_
  refine va_get (D := G) (ci := 3) (v := .int t_size) (C := RX3) (T := TX3) (N := 7) hx hb hts hinX3 hown hK hP 0 rfl rfl 4 (by decide) (hta _ mw_121) (fun _ h9 => h9) rfl dX3_add_2 ?_
  refine lv_iconst (v := (1 : Int32)) hx hb dX3_add_5 (by decide) ?_
  refine lv_iadd hx hb dX3_add_6 ?_
  refine va_put (D := G) (ci := 3) (v := .int (t_size + (1 : Int32))) (ty := .int) (C := RX3) (T := TX3) (N := 7) hx hb hts hinX3 tyX3 tyX3_ok nmX3 hown hK hP hD hS 0 rfl rfl 4 (by decide) (hta _ mw_121) (fun _ h9 => h9) rfl (by decide +kernel) rfl rfl (Nat.le_of_ble_eq_true rfl) dX3_add_7 (fun H locs hP hD hS => ?_)
  have hP : va_P G vwCl [(h_t, .inr (3, [.ref h_t_keys, .ref h_t_aboves, .ref h_t_rounds, .int t_round, .int (t_size + (1 : Int32)), .int t_sum, .long t_gathered]))] H := hP
  have hD : va_D A [(h_t, .inr (3, [.ref h_t_keys, .ref h_t_aboves, .ref h_t_rounds, .int t_round, .int (t_size + (1 : Int32)), .int t_sum, .long t_gathered]))] := hD
  refine lv_aload_n hx hb dX3_add_10 rfl (lv_at hl 0 rfl) ?_
  refine lv_dup hx hb dX3_add_11 rfl ?_
  refine va_get (D := G) (ci := 3) (v := .int t_sum) (C := RX3) (T := TX3) (N := 7) hx hb hts hinX3 hown hK hP 0 rfl rfl 5 (by decide) (hta _ mw_122) (fun _ h9 => h9) rfl dX3_add_12 ?_
  refine lv_iload_n hx hb dX3_add_15 rfl (lv_at hl 1 rfl) ?_
  refine lv_iadd hx hb dX3_add_16 ?_
  refine va_put (D := G) (ci := 3) (v := .int (t_sum + p0)) (ty := .int) (C := RX3) (T := TX3) (N := 7) hx hb hts hinX3 tyX3 tyX3_ok nmX3 hown hK hP hD hS 0 rfl rfl 5 (by decide) (hta _ mw_122) (fun _ h9 => h9) rfl (by decide +kernel) rfl rfl (Nat.le_of_ble_eq_true rfl) dX3_add_17 (fun H locs hP hD hS => ?_)
  have hP : va_P G vwCl [(h_t, .inr (3, [.ref h_t_keys, .ref h_t_aboves, .ref h_t_rounds, .int t_round, .int (t_size + (1 : Int32)), .int (t_sum + p0), .long t_gathered]))] H := hP
  have hD : va_D A [(h_t, .inr (3, [.ref h_t_keys, .ref h_t_aboves, .ref h_t_rounds, .int t_round, .int (t_size + (1 : Int32)), .int (t_sum + p0), .long t_gathered]))] := hD
  refine lv_iload_n hx hb dX3_add_20 rfl (lv_at hl 1 rfl) ?_
  refine lv_if_lt (tgt := 44) hx hb dX3_add_21 (by decide) (fun c1 => ?_) (fun c1 => ?_)
  · have h := it_p h c1
    have h9 := Option.some.inj h
    have e9 : (t_size + (1 : Int32)) = w0 := congrArg (fun z9 => z9.1) h9
    rw [← e9]
    have e9 : (t_sum + p0) = w1 := congrArg (fun z9 => z9.2.1) h9
    rw [← e9]
    have e9 : t_gathered = w2 := congrArg (fun z9 => z9.2.2) h9
    rw [← e9]
    exact k_vret hx hb hr hlocks hP hS dX3_add_44
  have h := it_n h c1
  refine lv_iload_n hx hb dX3_add_24 rfl (lv_at hl 1 rfl) ?_
  refine lv_bipush (v := (14 : Int32)) hx hb dX3_add_25 (by decide) ?_
  refine lv_icmp_gt (tgt := 44) hx hb dX3_add_27 (by decide) (fun c2 => ?_) (fun c2 => ?_)
  · have h := it_p h c2
    have h9 := Option.some.inj h
    have e9 : (t_size + (1 : Int32)) = w0 := congrArg (fun z9 => z9.1) h9
    rw [← e9]
    have e9 : (t_sum + p0) = w1 := congrArg (fun z9 => z9.2.1) h9
    rw [← e9]
    have e9 : t_gathered = w2 := congrArg (fun z9 => z9.2.2) h9
    rw [← e9]
    exact k_vret hx hb hr hlocks hP hS dX3_add_44
  have h := it_n h c2
  refine lv_aload_n hx hb dX3_add_30 rfl (lv_at hl 0 rfl) ?_
  refine lv_dup hx hb dX3_add_31 rfl ?_
  refine va_get (D := G) (ci := 3) (v := .long t_gathered) (C := RX3) (T := TX3) (N := 7) hx hb hts hinX3 hown hK hP 0 rfl rfl 6 (by decide) (hta _ mw_123) (fun _ h9 => h9) rfl dX3_add_32 ?_
  refine lv_lconst (v := (1 : Int64)) hx hb dX3_add_35 (by decide) ?_
  refine lv_iconst (v := (4 : Int32)) hx hb dX3_add_36 (by decide) ?_
  refine lv_iload_n hx hb dX3_add_37 rfl (lv_at hl 1 rfl) ?_
  refine lv_imul hx hb dX3_add_38 ?_
  refine lv_lshl (v := (lshl (1 : Int64) ((4 : Int32) * p0))) hx hb dX3_add_39 rfl ?_
  refine lv_ladd hx hb dX3_add_40 ?_
  refine va_put (D := G) (ci := 3) (v := .long (t_gathered + (lshl (1 : Int64) ((4 : Int32) * p0)))) (ty := .long) (C := RX3) (T := TX3) (N := 7) hx hb hts hinX3 tyX3 tyX3_ok nmX3 hown hK hP hD hS 0 rfl rfl 6 (by decide) (hta _ mw_123) (fun _ h9 => h9) rfl (by decide +kernel) rfl rfl (Nat.le_of_ble_eq_true rfl) dX3_add_41 (fun H locs hP hD hS => ?_)
  have hP : va_P G vwCl [(h_t, .inr (3, [.ref h_t_keys, .ref h_t_aboves, .ref h_t_rounds, .int t_round, .int (t_size + (1 : Int32)), .int (t_sum + p0), .long (t_gathered + (lshl (1 : Int64) ((4 : Int32) * p0)))]))] H := hP
  have hD : va_D A [(h_t, .inr (3, [.ref h_t_keys, .ref h_t_aboves, .ref h_t_rounds, .int t_round, .int (t_size + (1 : Int32)), .int (t_sum + p0), .long (t_gathered + (lshl (1 : Int64) ((4 : Int32) * p0)))]))] := hD
  have h9 := Option.some.inj h
  have e9 : (t_size + (1 : Int32)) = w0 := congrArg (fun z9 => z9.1) h9
  rw [← e9]
  have e9 : (t_sum + p0) = w1 := congrArg (fun z9 => z9.2.1) h9
  rw [← e9]
  have e9 : (t_gathered + (lshl (1 : Int64) ((4 : Int32) * p0))) = w2 := congrArg (fun z9 => z9.2.2) h9
  rw [← e9]
  exact k_vret hx hb hr hlocks hP hS dX3_add_44

/-! X3_keyFor -/
set_option maxHeartbeats 4000000 in
set_option maxRecDepth 100000 in
theorem c_X3_keyFor (l : Launch) (G : va_G) (cI cJ cD cH : ClassId) (sz : Nat) (h_t : Nat) (h_t_keys : Nat) (h_t_aboves : Nat) (h_t_rounds : Nat) (t_round : Int32) (t_size : Int32) (t_sum : Int32) (t_gathered : Int64) (p0 : Int32) (r0 : Int64) (hF : F_X3_keyFor t_size t_sum t_gathered p0 = some r0) : Met l yX3_keyFor wsX3_keyFor ({ frames := 0, cells := 0, slots := 0, locals := 0 }) (k_pre G (k_T cI cJ cD cH) [(h_t, .inr (3, [.ref h_t_keys, .ref h_t_aboves, .ref h_t_rounds, .int t_round, .int t_size, .int t_sum, .long t_gathered]))] sz [.ref h_t, .int p0]) (va_Ql (fun r (_ : Unit) => r = r0 ∧ True) (fun _ t => va_P G vwCl [(h_t, .inr (3, [.ref h_t_keys, .ref h_t_aboves, .ref h_t_rounds, .int t_round, .int t_size, .int t_sum, .long t_gathered]))] t.heap) (va_A [(h_t, .inr (3, [.ref h_t_keys, .ref h_t_aboves, .ref h_t_rounds, .int t_round, .int t_size, .int t_sum, .long t_gathered]))] sz)) 0 0 (va_A [(h_t, .inr (3, [.ref h_t_keys, .ref h_t_aboves, .ref h_t_rounds, .int t_round, .int t_size, .int t_sum, .long t_gathered]))] sz) := by
  refine Met.ofW (cc := cX3_keyFor) (maxL := 2) (ret := (some .long)) (by decide) rfl ?_
  intro p e s m args below meth c s₁ B hml hv
  obtain ⟨rfl, hsz, hP, hK, hD0⟩ := hv
  have hx := B.exec
  have hb := B.bytes
  have hr := B.returns
  have hts := atoms_spec (ws := wsX3_keyFor) B.pre
  have hta : ∀ w ∈ wA, w.before ([.ref h_t, .int p0] : List Value).toArray s = true := hta_of hts
  have hown : s.vm.findClass RX3 = some m.cls := findClass_of_methodNamed B.named
  have hlocks := B.notSynchronized
  subst hsz
  have hD := hD0.self (sz := s.heap.size)
  generalize hAe : va_A [(h_t, .inr (3, [.ref h_t_keys, .ref h_t_aboves, .ref h_t_rounds, .int t_round, .int t_size, .int t_sum, .long t_gathered]))] s.heap.size = A at hD ⊢
  have hA : ∀ q : Nat, s.heap.size ≤ q → A q := fun q h => by rw [← hAe]; exact Or.inr h
  have hS : va_S A s.heap s.heap [] := va_S.rf
  have hl := lv_entry ([.ref h_t, .int p0]) (n := 2) (Nat.le_of_ble_eq_true rfl)
  rw [lg_entry_eq]
  generalize (lg_sl ([.ref h_t, .int p0]) ++ List.replicate (2 - (lg_sl ([.ref h_t, .int p0])).length) Slot.unset).toArray = ls at hl ⊢
  have hl : lv_has ls 2 [(0, .ref h_t), (1, .int p0)] := hl
  have hinX3 : ∀ w ∈ wsX30, w ∈ wsX3_keyFor := hin_of in_X3
  have h := hF
  unfold F_X3_keyFor at h
  refine lv_iconst (v := (2 : Int32)) hx hb dX3_keyFor_0 (by decide) ?_
  refine lv_iload_n hx hb dX3_keyFor_1 rfl (lv_at hl 1 rfl) ?_
  refine lv_imul hx hb dX3_keyFor_2 ?_
  refine lv_iconst (v := (2 : Int32)) hx hb dX3_keyFor_3 (by decide) ?_
  refine lv_isub hx hb dX3_keyFor_4 ?_
  refine lv_aload_n hx hb dX3_keyFor_5 rfl (lv_at hl 0 rfl) ?_
  refine va_get (D := G) (ci := 3) (v := .int t_size) (C := RX3) (T := TX3) (N := 7) hx hb hts hinX3 hown hK hP 0 rfl rfl 4 (by decide) (hta _ mw_121) (fun _ h9 => h9) rfl dX3_keyFor_6 ?_
  refine lv_iadd hx hb dX3_keyFor_9 ?_
  refine lv_if_le (tgt := 30) hx hb dX3_keyFor_10 (by decide) (fun c1 => ?_) (fun c1 => ?_)
  · have h := it_p h c1
    refine lv_lconst (v := (0 : Int64)) hx hb dX3_keyFor_30 (by decide) ?_
    have h9 := Option.some.inj h
    have e9 : (0 : Int64) = r0 := congrArg (fun z9 => z9) h9
    rw [← e9]
    exact k_lret hx hb hr hlocks hP hS rfl dX3_keyFor_31
  have h := it_n h c1
  refine lv_aload_n hx hb dX3_keyFor_13 rfl (lv_at hl 0 rfl) ?_
  refine va_get (D := G) (ci := 3) (v := .int t_sum) (C := RX3) (T := TX3) (N := 7) hx hb hts hinX3 hown hK hP 0 rfl rfl 5 (by decide) (hta _ mw_122) (fun _ h9 => h9) rfl dX3_keyFor_14 ?_
  refine lv_iconst (v := (3 : Int32)) hx hb dX3_keyFor_17 (by decide) ?_
  refine lv_iload_n hx hb dX3_keyFor_18 rfl (lv_at hl 1 rfl) ?_
  refine lv_imul hx hb dX3_keyFor_19 ?_
  refine lv_iconst (v := (3 : Int32)) hx hb dX3_keyFor_20 (by decide) ?_
  refine lv_isub hx hb dX3_keyFor_21 ?_
  refine lv_aload_n hx hb dX3_keyFor_22 rfl (lv_at hl 0 rfl) ?_
  refine va_get (D := G) (ci := 3) (v := .int t_size) (C := RX3) (T := TX3) (N := 7) hx hb hts hinX3 hown hK hP 0 rfl rfl 4 (by decide) (hta _ mw_121) (fun _ h9 => h9) rfl dX3_keyFor_23 ?_
  refine lv_iadd hx hb dX3_keyFor_26 ?_
  refine lv_icmp_eq (tgt := 32) hx hb dX3_keyFor_27 (by decide) (fun c2 => ?_) (fun c2 => ?_)
  rotate_left
  · have h := it_n h c2
    refine lv_lconst (v := (0 : Int64)) hx hb dX3_keyFor_30 (by decide) ?_
    have h9 := Option.some.inj h
    have e9 : (0 : Int64) = r0 := congrArg (fun z9 => z9) h9
    rw [← e9]
    exact k_lret hx hb hr hlocks hP hS rfl dX3_keyFor_31
  have h := it_p h c2
  refine lv_iload_n hx hb dX3_keyFor_32 rfl (lv_at hl 1 rfl) ?_
  refine lv_i2l (v := p0.toInt64) hx hb dX3_keyFor_33 (by first | rfl | decide) ?_
  refine lv_bipush (v := (60 : Int32)) hx hb dX3_keyFor_34 (by decide) ?_
  refine lv_lshl (v := (lshl p0.toInt64 (60 : Int32))) hx hb dX3_keyFor_36 rfl ?_
  refine lv_aload_n hx hb dX3_keyFor_37 rfl (lv_at hl 0 rfl) ?_
  refine va_get (D := G) (ci := 3) (v := .long t_gathered) (C := RX3) (T := TX3) (N := 7) hx hb hts hinX3 hown hK hP 0 rfl rfl 6 (by decide) (hta _ mw_123) (fun _ h9 => h9) rfl dX3_keyFor_38 ?_
  refine lv_ladd hx hb dX3_keyFor_41 ?_
  have h9 := Option.some.inj h
  have e9 : ((lshl p0.toInt64 (60 : Int32)) + t_gathered) = r0 := congrArg (fun z9 => z9) h9
  rw [← e9]
  exact k_lret hx hb hr hlocks hP hS rfl dX3_keyFor_42

/-! X3_baseOf -/
set_option maxHeartbeats 4000000 in
set_option maxRecDepth 100000 in
theorem c_X3_baseOf (l : Launch) (G : va_G) (cI cJ cD cH : ClassId) (sz : Nat) (p0 : Int64) (r0 : Int64) (hF : F_X3_baseOf p0 = some r0) : Met l yX3_baseOf wsX3_baseOf ({ frames := 0, cells := 0, slots := 0, locals := 0 }) (k_pre G (k_T cI cJ cD cH) [] sz [.long p0]) (va_Ql (fun r (_ : Unit) => r = r0 ∧ True) (fun _ t => va_P G vwCl [] t.heap) (va_A [] sz)) 0 0 (va_A [] sz) := by
  refine Met.ofW (cc := cX3_baseOf) (maxL := 2) (ret := (some .long)) (by decide) rfl ?_
  intro p e s m args below meth c s₁ B hml hv
  obtain ⟨rfl, hsz, hP, hK, hD0⟩ := hv
  have hx := B.exec
  have hb := B.bytes
  have hr := B.returns
  have hts := atoms_spec (ws := wsX3_baseOf) B.pre
  have hta : ∀ w ∈ wA, w.before ([.long p0] : List Value).toArray s = true := hta_of hts
  have hown : s.vm.findClass RX3 = some m.cls := findClass_of_methodNamed B.named
  have hlocks := B.notSynchronized
  subst hsz
  have hD := hD0.self (sz := s.heap.size)
  generalize hAe : va_A [] s.heap.size = A at hD ⊢
  have hA : ∀ q : Nat, s.heap.size ≤ q → A q := fun q h => by rw [← hAe]; exact Or.inr h
  have hS : va_S A s.heap s.heap [] := va_S.rf
  have hl := lv_entry ([.long p0]) (n := 2) (Nat.le_of_ble_eq_true rfl)
  rw [lg_entry_eq]
  generalize (lg_sl ([.long p0]) ++ List.replicate (2 - (lg_sl ([.long p0])).length) Slot.unset).toArray = ls at hl ⊢
  have hl : lv_has ls 2 [(0, .long p0)] := hl
  have h := hF
  unfold F_X3_baseOf at h
  refine lv_lload_n hx hb dX3_baseOf_0 rfl (lv_at hl 0 rfl) ?_
  refine lv_ldc2 (v := (3 : Int64)) hx hb hown (hta _ mw_131) dX3_baseOf_1 ?_
  refine W.lcmp hx hb dX3_baseOf_4 ?_
  refine lv_if_eq (tgt := 16) hx hb dX3_baseOf_5 (by decide) (fun c1 => ?_) (fun c1 => ?_)
  · have h := it_p h c1
    refine lv_lconst (v := (1 : Int64)) hx hb dX3_baseOf_16 (by decide) ?_
    have h9 := Option.some.inj h
    have e9 : (1 : Int64) = r0 := congrArg (fun z9 => z9) h9
    rw [← e9]
    exact k_lret hx hb hr hlocks hP hS rfl dX3_baseOf_17
  have h := it_n h c1
  refine lv_lload_n hx hb dX3_baseOf_8 rfl (lv_at hl 0 rfl) ?_
  refine lv_ldc2 (v := (1152921504606846992 : Int64)) hx hb hown (hta _ mw_132) dX3_baseOf_9 ?_
  refine W.lcmp hx hb dX3_baseOf_12 ?_
  refine lv_if_ne (tgt := 18) hx hb dX3_baseOf_13 (by decide) (fun c2 => ?_) (fun c2 => ?_)
  rotate_left
  · have h := it_p h c2
    refine lv_lconst (v := (1 : Int64)) hx hb dX3_baseOf_16 (by decide) ?_
    have h9 := Option.some.inj h
    have e9 : (1 : Int64) = r0 := congrArg (fun z9 => z9) h9
    rw [← e9]
    exact k_lret hx hb hr hlocks hP hS rfl dX3_baseOf_17
  have h := it_n h c2
  refine lv_lload_n hx hb dX3_baseOf_18 rfl (lv_at hl 0 rfl) ?_
  refine lv_ldc2 (v := (2305843009213759488 : Int64)) hx hb hown (hta _ mw_133) dX3_baseOf_19 ?_
  refine W.lcmp hx hb dX3_baseOf_22 ?_
  refine lv_if_ne (tgt := 30) hx hb dX3_baseOf_23 (by decide) (fun c3 => ?_) (fun c3 => ?_)
  rotate_left
  · have h := it_p h c3
    refine lv_ldc2 (v := (5 : Int64)) hx hb hown (hta _ mw_134) dX3_baseOf_26 ?_
    have h9 := Option.some.inj h
    have e9 : (5 : Int64) = r0 := congrArg (fun z9 => z9) h9
    rw [← e9]
    exact k_lret hx hb hr hlocks hP hS rfl dX3_baseOf_29
  have h := it_n h c3
  refine lv_lload_n hx hb dX3_baseOf_30 rfl (lv_at hl 0 rfl) ?_
  refine lv_ldc2 (v := (2305843009213698304 : Int64)) hx hb hown (hta _ mw_135) dX3_baseOf_31 ?_
  refine W.lcmp hx hb dX3_baseOf_34 ?_
  refine lv_if_ne (tgt := 42) hx hb dX3_baseOf_35 (by decide) (fun c4 => ?_) (fun c4 => ?_)
  rotate_left
  · have h := it_p h c4
    refine lv_ldc2 (v := (29 : Int64)) hx hb hown (hta _ mw_136) dX3_baseOf_38 ?_
    have h9 := Option.some.inj h
    have e9 : (29 : Int64) = r0 := congrArg (fun z9 => z9) h9
    rw [← e9]
    exact k_lret hx hb hr hlocks hP hS rfl dX3_baseOf_41
  have h := it_n h c4
  refine lv_lload_n hx hb dX3_baseOf_42 rfl (lv_at hl 0 rfl) ?_
  refine lv_ldc2 (v := (2305843009213694720 : Int64)) hx hb hown (hta _ mw_137) dX3_baseOf_43 ?_
  refine W.lcmp hx hb dX3_baseOf_46 ?_
  refine lv_if_ne (tgt := 56) hx hb dX3_baseOf_47 (by decide) (fun c5 => ?_) (fun c5 => ?_)
  · have h := it_n h c5
    refine lv_lconst (v := (0 : Int64)) hx hb dX3_baseOf_56 (by decide) ?_
    have h9 := Option.some.inj h
    have e9 : (0 : Int64) = r0 := congrArg (fun z9 => z9) h9
    rw [← e9]
    exact k_lret hx hb hr hlocks hP hS rfl dX3_baseOf_57
  have h := it_p h c5
  refine lv_ldc2 (v := (168 : Int64)) hx hb hown (hta _ mw_138) dX3_baseOf_50 ?_
  refine lv_goto (tgt := 57) hx hb dX3_baseOf_53 (by decide) ?_
  have h9 := Option.some.inj h
  have e9 : (168 : Int64) = r0 := congrArg (fun z9 => z9) h9
  rw [← e9]
  exact k_lret hx hb hr hlocks hP hS rfl dX3_baseOf_57

/-! X3_timesThere -/
set_option maxHeartbeats 4000000 in
set_option maxRecDepth 100000 in
theorem c_X3_timesThere (l : Launch) (G : va_G) (cI cJ cD cH : ClassId) (sz : Nat) (p0 : Int64) (p1 : Int32) (r0 : Int32) (hF : F_X3_timesThere p0 p1 = some r0) : Met l yX3_timesThere wsX3_timesThere ({ frames := 0, cells := 0, slots := 0, locals := 0 }) (k_pre G (k_T cI cJ cD cH) [] sz [.long p0, .int p1]) (va_Qi (fun r (_ : Unit) => r = r0 ∧ True) (fun _ t => va_P G vwCl [] t.heap) (va_A [] sz)) 0 0 (va_A [] sz) := by
  refine Met.ofW (cc := cX3_timesThere) (maxL := 3) (ret := (some .int)) (by decide) rfl ?_
  intro p e s m args below meth c s₁ B hml hv
  obtain ⟨rfl, hsz, hP, hK, hD0⟩ := hv
  have hx := B.exec
  have hb := B.bytes
  have hr := B.returns
  have hts := atoms_spec (ws := wsX3_timesThere) B.pre
  have hta : ∀ w ∈ wA, w.before ([.long p0, .int p1] : List Value).toArray s = true := hta_of hts
  have hown : s.vm.findClass RX3 = some m.cls := findClass_of_methodNamed B.named
  have hlocks := B.notSynchronized
  subst hsz
  have hD := hD0.self (sz := s.heap.size)
  generalize hAe : va_A [] s.heap.size = A at hD ⊢
  have hA : ∀ q : Nat, s.heap.size ≤ q → A q := fun q h => by rw [← hAe]; exact Or.inr h
  have hS : va_S A s.heap s.heap [] := va_S.rf
  have hl := lv_entry ([.long p0, .int p1]) (n := 3) (Nat.le_of_ble_eq_true rfl)
  rw [lg_entry_eq]
  generalize (lg_sl ([.long p0, .int p1]) ++ List.replicate (3 - (lg_sl ([.long p0, .int p1])).length) Slot.unset).toArray = ls at hl ⊢
  have hl : lv_has ls 3 [(0, .long p0), (2, .int p1)] := hl
  have h := hF
  unfold F_X3_timesThere at h
  refine lv_lload_n hx hb dX3_timesThere_0 rfl (lv_at hl 0 rfl) ?_
  refine lv_iconst (v := (4 : Int32)) hx hb dX3_timesThere_1 (by decide) ?_
  refine lv_iload_n hx hb dX3_timesThere_2 rfl (lv_at hl 1 rfl) ?_
  refine lv_imul hx hb dX3_timesThere_3 ?_
  refine lv_lushr (v := (lush p0 ((4 : Int32) * p1))) hx hb dX3_timesThere_4 rfl ?_
  refine lv_ldc2 (v := (15 : Int64)) hx hb hown (hta _ mw_142) dX3_timesThere_5 ?_
  refine lv_land hx hb dX3_timesThere_8 ?_
  refine lv_l2i (v := ((lush p0 ((4 : Int32) * p1)) &&& (15 : Int64)).toInt32) hx hb dX3_timesThere_9 rfl ?_
  have h9 := Option.some.inj h
  have e9 : ((lush p0 ((4 : Int32) * p1)) &&& (15 : Int64)).toInt32 = r0 := congrArg (fun z9 => z9) h9
  rw [← e9]
  exact k_iret hx hb hr hlocks hP hS rfl dX3_timesThere_10

/-! X3_ruleOf -/
set_option maxHeartbeats 4000000 in
set_option maxRecDepth 100000 in
theorem c_X3_ruleOf (l : Launch) (G : va_G) (cI cJ cD cH : ClassId) (sz : Nat) (p0 : Int64) (r0 : Int32) (hF : F_X3_ruleOf p0 = some r0) : Met l yX3_ruleOf wsX3_ruleOf ({ frames := 1, cells := 0, slots := 0, locals := 22 }) (k_pre G (k_T cI cJ cD cH) [] sz [.long p0]) (va_Qi (fun r (_ : Unit) => r = r0 ∧ True) (fun _ t => va_P G vwCl [] t.heap) (va_A [] sz)) 0 0 (va_A [] sz) := by
  refine Met.ofW (cc := cX3_ruleOf) (maxL := 2) (ret := (some .int)) (by decide) rfl ?_
  intro p e s m args below meth c s₁ B hml hv
  obtain ⟨rfl, hsz, hP, hK, hD0⟩ := hv
  have hx := B.exec
  have hb := B.bytes
  have hr := B.returns
  have hts := atoms_spec (ws := wsX3_ruleOf) B.pre
  have hta : ∀ w ∈ wA, w.before ([.long p0] : List Value).toArray s = true := hta_of hts
  have hown : s.vm.findClass RX3 = some m.cls := findClass_of_methodNamed B.named
  have hlocks := B.notSynchronized
  subst hsz
  have hD := hD0.self (sz := s.heap.size)
  generalize hAe : va_A [] s.heap.size = A at hD ⊢
  have hA : ∀ q : Nat, s.heap.size ≤ q → A q := fun q h => by rw [← hAe]; exact Or.inr h
  have hS : va_S A s.heap s.heap [] := va_S.rf
  have hl := lv_entry ([.long p0]) (n := 2) (Nat.le_of_ble_eq_true rfl)
  rw [lg_entry_eq]
  generalize (lg_sl ([.long p0]) ++ List.replicate (2 - (lg_sl ([.long p0])).length) Slot.unset).toArray = ls at hl ⊢
  have hl : lv_has ls 2 [(0, .long p0)] := hl
  have h := hF
  unfold F_X3_ruleOf at h
  refine lv_lload_n hx hb dX3_ruleOf_0 rfl (lv_at hl 0 rfl) ?_
  refine lv_lconst (v := (0 : Int64)) hx hb dX3_ruleOf_1 (by decide) ?_
  refine W.lcmp hx hb dX3_ruleOf_2 ?_
  refine lv_if_ne (tgt := 8) hx hb dX3_ruleOf_3 (by decide) (fun c1 => ?_) (fun c1 => ?_)
  rotate_left
  · have h := it_p h c1
    refine lv_iconst (v := (0 : Int32)) hx hb dX3_ruleOf_6 (by decide) ?_
    have h9 := Option.some.inj h
    have e9 : (0 : Int32) = r0 := congrArg (fun z9 => z9) h9
    rw [← e9]
    exact k_iret hx hb hr hlocks hP hS rfl dX3_ruleOf_7
  have h := it_n h c1
  refine lv_lload_n hx hb dX3_ruleOf_8 rfl (lv_at hl 0 rfl) ?_
  obtain ⟨x2, hx2, h⟩ := bd_e h
  try dsimp only at h
  refine k_SlU (n := 1) (As := [.long p0]) (rest := []) hx hb hml hown hts (c_X3_baseOf l G cI cJ cD cH s.heap.size p0 x2 hx2) gX3_ruleOf_X3_baseOf rfl rfl rfl (by decide +kernel) ⟨by first | exact Nat.le_of_ble_eq_true rfl | (simp only [headSpec]; omega), by first | exact Nat.le_of_ble_eq_true rfl | (simp only [headSpec]; omega)⟩ hK hP hD hS hA [] (by decide) rfl rfl rfl hl.1 (Nat.le_of_ble_eq_true rfl) dX3_ruleOf_9 ⟨Nat.zero_le _, Nat.zero_le _⟩ (fun hp2 H locs hP hS => ?_)
  refine lv_lconst (v := (0 : Int64)) hx hb dX3_ruleOf_12 (by decide) ?_
  refine W.lcmp hx hb dX3_ruleOf_13 ?_
  refine lv_if_eq (tgt := 19) hx hb dX3_ruleOf_14 (by decide) (fun c3 => ?_) (fun c3 => ?_)
  rotate_left
  · have h := it_n h c3
    refine lv_iconst (v := (1 : Int32)) hx hb dX3_ruleOf_17 (by decide) ?_
    have h9 := Option.some.inj h
    have e9 : (1 : Int32) = r0 := congrArg (fun z9 => z9) h9
    rw [← e9]
    exact k_iret hx hb hr hlocks hP hS rfl dX3_ruleOf_18
  have h := it_p h c3
  refine lv_lload_n hx hb dX3_ruleOf_19 rfl (lv_at hl 0 rfl) ?_
  refine lv_iconst (v := (0 : Int32)) hx hb dX3_ruleOf_20 (by decide) ?_
  obtain ⟨x4, hx4, h⟩ := bd_e h
  try dsimp only at h
  refine k_SiU (n := 2) (As := [.long p0, .int (0 : Int32)]) (rest := []) hx hb hml hown hts (c_X3_timesThere l G cI cJ cD cH H.size p0 (0 : Int32) x4 hx4) gX3_ruleOf_X3_timesThere rfl rfl rfl (by decide +kernel) ⟨by first | exact Nat.le_of_ble_eq_true rfl | (simp only [headSpec]; omega), by first | exact Nat.le_of_ble_eq_true rfl | (simp only [headSpec]; omega)⟩ hK hP hD hS hA [] (by decide) rfl rfl rfl hl.1 (Nat.le_of_ble_eq_true rfl) dX3_ruleOf_21 ⟨Nat.zero_le _, Nat.zero_le _⟩ (fun hp4 H locs hP hS => ?_)
  refine lv_if_le (tgt := 31) hx hb dX3_ruleOf_24 (by decide) (fun c5 => ?_) (fun c5 => ?_)
  · have h := it_p h c5
    refine lv_iconst (v := (3 : Int32)) hx hb dX3_ruleOf_31 (by decide) ?_
    have h9 := Option.some.inj h
    have e9 : (3 : Int32) = r0 := congrArg (fun z9 => z9) h9
    rw [← e9]
    exact k_iret hx hb hr hlocks hP hS rfl dX3_ruleOf_32
  have h := it_n h c5
  refine lv_iconst (v := (2 : Int32)) hx hb dX3_ruleOf_27 (by decide) ?_
  refine lv_goto (tgt := 32) hx hb dX3_ruleOf_28 (by decide) ?_
  have h9 := Option.some.inj h
  have e9 : (2 : Int32) = r0 := congrArg (fun z9 => z9) h9
  rw [← e9]
  exact k_iret hx hb hr hlocks hP hS rfl dX3_ruleOf_32

/-! X3_nextKey -/
set_option maxHeartbeats 4000000 in
set_option maxRecDepth 100000 in
theorem tJ_X3_nextKey_32 {l : Launch} {G : va_G} {cI cJ cD cH : ClassId} {p0 : Int64} {p1 : Int32} {p2 : Int32} {r0 : Int64} {p : Program} {e : Env} {s : State} {m : MethodId} {below : List Frame} {meth : Method} {c : Code} {A : Nat → Prop} (hx : p.tables.exec = Jvm.exec) (hb : c.code = cX3_nextKey) (hr : meth.sig.returnType = (some .long)) (hml : c.maxLocals = 6) (hts : ∀ w ∈ wsX3_nextKey, w.before ([.long p0, .int p1, .int p2] : List Value).toArray s = true) (hown : s.vm.findClass RX3 = some m.cls) (hlocks : meth.locks = false) (hK : va_K G vwCl (k_T cI cJ cD cH) s) (hA : ∀ q : Nat, s.heap.size ≤ q → A q) : ∀ (H : Heap) (locs : List Loc) (ls : Array Slot), va_P G vwCl [] H → va_D A [] → va_S A s.heap H locs → lv_has ls 6 [(0, .long p0), (2, .int p1), (3, .int p2), (4, .long (lshl (1 : Int64) ((4 : Int32) * p2)))] → J_X3_nextKey_32 p0 p1 p2 = some r0 → W p l e (headSpec wsX3_nextKey ({ frames := 1, cells := 0, slots := 0, locals := 22 })).room s m ([.long p0, .int p1, .int p2] : List Value).toArray below meth c H locs 0 0 (MQ below (va_Ql (fun r (_ : Unit) => r = r0 ∧ True) (fun _ t => va_P G vwCl [] t.heap) A) ([.long p0, .int p1, .int p2] : List Value).toArray s 0 0 A) (F0 m 32 ls []) := by
  have hta : ∀ w ∈ wA, w.before ([.long p0, .int p1, .int p2] : List Value).toArray s = true := hta_of hts
  intro  H locs ls hP hD hS hl h
  unfold J_X3_nextKey_32 at h
  refine lv_iload_n hx hb dX3_nextKey_32 rfl (lv_at hl 1 rfl) ?_
  refine lv_iconst (v := (3 : Int32)) hx hb dX3_nextKey_33 (by decide) ?_
  refine lv_icmp_ne (tgt := 49) hx hb dX3_nextKey_34 (by decide) (fun c1 => ?_) (fun c1 => ?_)
  · have h := it_n h c1
    refine lv_lconst (v := (0 : Int64)) hx hb dX3_nextKey_49 (by decide) ?_
    have h9 := Option.some.inj h
    have e9 : (0 : Int64) = r0 := congrArg (fun z9 => z9) h9
    rw [← e9]
    exact k_lret hx hb hr hlocks hP hS rfl dX3_nextKey_50
  have h := it_p h c1
  refine lv_iload_n hx hb dX3_nextKey_37 rfl (lv_at hl 2 rfl) ?_
  refine lv_iconst (v := (1 : Int32)) hx hb dX3_nextKey_38 (by decide) ?_
  refine lv_icmp_ne (tgt := 49) hx hb dX3_nextKey_39 (by decide) (fun c2 => ?_) (fun c2 => ?_)
  · have h := it_n h c2
    refine lv_lconst (v := (0 : Int64)) hx hb dX3_nextKey_49 (by decide) ?_
    have h9 := Option.some.inj h
    have e9 : (0 : Int64) = r0 := congrArg (fun z9 => z9) h9
    rw [← e9]
    exact k_lret hx hb hr hlocks hP hS rfl dX3_nextKey_50
  have h := it_p h c2
  refine lv_lload_n hx hb dX3_nextKey_42 rfl (lv_at hl 0 rfl) ?_
  refine lv_lload hx hb dX3_nextKey_43 (lv_at hl 3 rfl) ?_
  refine lv_lsub hx hb dX3_nextKey_45 ?_
  refine lv_goto (tgt := 50) hx hb dX3_nextKey_46 (by decide) ?_
  have h9 := Option.some.inj h
  have e9 : (p0 - (lshl (1 : Int64) ((4 : Int32) * p2))) = r0 := congrArg (fun z9 => z9) h9
  rw [← e9]
  exact k_lret hx hb hr hlocks hP hS rfl dX3_nextKey_50
set_option maxHeartbeats 4000000 in
set_option maxRecDepth 100000 in
theorem c_X3_nextKey (l : Launch) (G : va_G) (cI cJ cD cH : ClassId) (sz : Nat) (p0 : Int64) (p1 : Int32) (p2 : Int32) (r0 : Int64) (hF : F_X3_nextKey p0 p1 p2 = some r0) : Met l yX3_nextKey wsX3_nextKey ({ frames := 1, cells := 0, slots := 0, locals := 22 }) (k_pre G (k_T cI cJ cD cH) [] sz [.long p0, .int p1, .int p2]) (va_Ql (fun r (_ : Unit) => r = r0 ∧ True) (fun _ t => va_P G vwCl [] t.heap) (va_A [] sz)) 0 0 (va_A [] sz) := by
  refine Met.ofW (cc := cX3_nextKey) (maxL := 6) (ret := (some .long)) (by decide) rfl ?_
  intro p e s m args below meth c s₁ B hml hv
  obtain ⟨rfl, hsz, hP, hK, hD0⟩ := hv
  have hx := B.exec
  have hb := B.bytes
  have hr := B.returns
  have hts := atoms_spec (ws := wsX3_nextKey) B.pre
  have hta : ∀ w ∈ wA, w.before ([.long p0, .int p1, .int p2] : List Value).toArray s = true := hta_of hts
  have hown : s.vm.findClass RX3 = some m.cls := findClass_of_methodNamed B.named
  have hlocks := B.notSynchronized
  subst hsz
  have hD := hD0.self (sz := s.heap.size)
  generalize hAe : va_A [] s.heap.size = A at hD ⊢
  have hA : ∀ q : Nat, s.heap.size ≤ q → A q := fun q h => by rw [← hAe]; exact Or.inr h
  have hS : va_S A s.heap s.heap [] := va_S.rf
  have hl := lv_entry ([.long p0, .int p1, .int p2]) (n := 6) (Nat.le_of_ble_eq_true rfl)
  rw [lg_entry_eq]
  generalize (lg_sl ([.long p0, .int p1, .int p2]) ++ List.replicate (6 - (lg_sl ([.long p0, .int p1, .int p2])).length) Slot.unset).toArray = ls at hl ⊢
  have hl : lv_has ls 6 [(0, .long p0), (2, .int p1), (3, .int p2)] := hl
  have h := hF
  unfold F_X3_nextKey at h
  refine lv_lconst (v := (1 : Int64)) hx hb dX3_nextKey_0 (by decide) ?_
  refine lv_iconst (v := (4 : Int32)) hx hb dX3_nextKey_1 (by decide) ?_
  refine lv_iload_n hx hb dX3_nextKey_2 rfl (lv_at hl 2 rfl) ?_
  refine lv_imul hx hb dX3_nextKey_3 ?_
  refine lv_lshl (v := (lshl (1 : Int64) ((4 : Int32) * p2))) hx hb dX3_nextKey_4 rfl ?_
  refine lv_lstore (lv' := [(4, .long (lshl (1 : Int64) ((4 : Int32) * p2))), (0, .long p0), (2, .int p1), (3, .int p2)]) hx hb dX3_nextKey_5 hl (by decide) rfl (fun ls hl => ?_)
  refine lv_iload_n hx hb dX3_nextKey_7 rfl (lv_at hl 2 rfl) ?_
  refine lv_iconst (v := (2 : Int32)) hx hb dX3_nextKey_8 (by decide) ?_
  refine lv_icmp_ne (tgt := 32) hx hb dX3_nextKey_9 (by decide) (fun c3 => ?_) (fun c3 => ?_)
  · have h := it_n h c3
    exact tJ_X3_nextKey_32 hx hb hr hml hts hown hlocks hK hA  _ _ _ hP hD hS (lv_sub hl [1, 2, 3, 0] rfl) h
  have h := it_p h c3
  refine lv_lload_n hx hb dX3_nextKey_12 rfl (lv_at hl 1 rfl) ?_
  refine lv_iload_n hx hb dX3_nextKey_13 rfl (lv_at hl 3 rfl) ?_
  obtain ⟨x4, hx4, h⟩ := bd_e h
  try dsimp only at h
  refine k_SiU (n := 2) (As := [.long p0, .int p2]) (rest := []) hx hb hml hown hts (c_X3_timesThere l G cI cJ cD cH s.heap.size p0 p2 x4 hx4) gX3_nextKey_X3_timesThere rfl rfl rfl (by decide +kernel) ⟨by first | exact Nat.le_of_ble_eq_true rfl | (simp only [headSpec]; omega), by first | exact Nat.le_of_ble_eq_true rfl | (simp only [headSpec]; omega)⟩ hK hP hD hS hA [] (by decide) rfl rfl rfl hl.1 (Nat.le_of_ble_eq_true rfl) dX3_nextKey_14 ⟨Nat.zero_le _, Nat.zero_le _⟩ (fun hp4 H locs hP hS => ?_)
  refine lv_if_le (tgt := 32) hx hb dX3_nextKey_17 (by decide) (fun c5 => ?_) (fun c5 => ?_)
  · have h := it_p h c5
    exact tJ_X3_nextKey_32 hx hb hr hml hts hown hlocks hK hA  _ _ _ hP hD hS (lv_sub hl [1, 2, 3, 0] rfl) h
  have h := it_n h c5
  refine lv_lload_n hx hb dX3_nextKey_20 rfl (lv_at hl 1 rfl) ?_
  refine lv_lconst (v := (1 : Int64)) hx hb dX3_nextKey_21 (by decide) ?_
  refine lv_lsub hx hb dX3_nextKey_22 ?_
  refine lv_lload hx hb dX3_nextKey_23 (lv_at hl 0 rfl) ?_
  refine lv_lsub hx hb dX3_nextKey_25 ?_
  refine lv_lload hx hb dX3_nextKey_26 (lv_at hl 0 rfl) ?_
  refine lv_iconst (v := (4 : Int32)) hx hb dX3_nextKey_28 (by decide) ?_
  refine lv_lushr (v := (lush (lshl (1 : Int64) ((4 : Int32) * p2)) (4 : Int32))) hx hb dX3_nextKey_29 rfl ?_
  refine lv_ladd hx hb dX3_nextKey_30 ?_
  have h9 := Option.some.inj h
  have e9 : (((p0 - (1 : Int64)) - (lshl (1 : Int64) ((4 : Int32) * p2))) + (lush (lshl (1 : Int64) ((4 : Int32) * p2)) (4 : Int32))) = r0 := congrArg (fun z9 => z9) h9
  rw [← e9]
  exact k_lret hx hb hr hlocks hP hS rfl dX3_nextKey_31

/-! X3_weightOf -/
set_option maxHeartbeats 4000000 in
set_option maxRecDepth 100000 in
theorem tK_X3_weightOf_18_42 {l : Launch} {G : va_G} {cI cJ cD cH : ClassId} {p0 : Int64} {p1 : Int32} {p2 : Int32} {r0 : Int64} {p : Program} {e : Env} {s : State} {m : MethodId} {below : List Frame} {meth : Method} {c : Code} {A : Nat → Prop} (hx : p.tables.exec = Jvm.exec) (hb : c.code = cX3_weightOf) (hr : meth.sig.returnType = (some .long)) (hml : c.maxLocals = 6) (hts : ∀ w ∈ wsX3_weightOf, w.before ([.long p0, .int p1, .int p2] : List Value).toArray s = true) (hown : s.vm.findClass RX3 = some m.cls) (hlocks : meth.locks = false) (hK : va_K G vwCl (k_T cI cJ cD cH) s) (hA : ∀ q : Nat, s.heap.size ≤ q → A q) : ∀  (vK18_42_0 : Int32) (H : Heap) (locs : List Loc) (ls : Array Slot), va_P G vwCl [] H → va_D A [] → va_S A s.heap H locs → lv_has ls 6 [(0, .long p0), (4, .int vK18_42_0)] → K_X3_weightOf_18_42 p0 vK18_42_0 = some r0 → W p l e (headSpec wsX3_weightOf ({ frames := 1, cells := 0, slots := 0, locals := 22 })).room s m ([.long p0, .int p1, .int p2] : List Value).toArray below meth c H locs 0 0 (MQ below (va_Ql (fun r (_ : Unit) => r = r0 ∧ True) (fun _ t => va_P G vwCl [] t.heap) A) ([.long p0, .int p1, .int p2] : List Value).toArray s 0 0 A) (F0 m 42 ls []) := by
  have hta : ∀ w ∈ wA, w.before ([.long p0, .int p1, .int p2] : List Value).toArray s = true := hta_of hts
  intro vK18_42_0 H locs ls hP hD hS hl h
  unfold K_X3_weightOf_18_42 at h
  refine lv_ldc2 (v := (2 : Int64)) hx hb hown (hta _ mw_145) dX3_weightOf_42 ?_
  refine lv_lload_n hx hb dX3_weightOf_45 rfl (lv_at hl 0 rfl) ?_
  refine lv_bipush (v := (60 : Int32)) hx hb dX3_weightOf_46 (by decide) ?_
  refine lv_lushr (v := (lush p0 (60 : Int32))) hx hb dX3_weightOf_48 rfl ?_
  refine lv_lmul hx hb dX3_weightOf_49 ?_
  refine lv_ldc2 (v := (2 : Int64)) hx hb hown (hta _ mw_145) dX3_weightOf_50 ?_
  refine lv_lsub hx hb dX3_weightOf_53 ?_
  refine lv_iload hx hb dX3_weightOf_54 (lv_at hl 1 rfl) ?_
  refine lv_i2l (v := vK18_42_0.toInt64) hx hb dX3_weightOf_56 (by first | rfl | decide) ?_
  refine lv_ladd hx hb dX3_weightOf_57 ?_
  refine lv_lconst (v := (1 : Int64)) hx hb dX3_weightOf_58 (by decide) ?_
  refine lv_lsub hx hb dX3_weightOf_59 ?_
  have h9 := Option.some.inj h
  have e9 : (((((2 : Int64) * (lush p0 (60 : Int32))) - (2 : Int64)) + vK18_42_0.toInt64) - (1 : Int64)) = r0 := congrArg (fun z9 => z9) h9
  rw [← e9]
  exact k_lret hx hb hr hlocks hP hS rfl dX3_weightOf_60
set_option maxHeartbeats 4000000 in
set_option maxRecDepth 100000 in
theorem c_X3_weightOf (l : Launch) (G : va_G) (cI cJ cD cH : ClassId) (sz : Nat) (p0 : Int64) (p1 : Int32) (p2 : Int32) (r0 : Int64) (hF : F_X3_weightOf p0 p1 p2 = some r0) : Met l yX3_weightOf wsX3_weightOf ({ frames := 1, cells := 0, slots := 0, locals := 22 }) (k_pre G (k_T cI cJ cD cH) [] sz [.long p0, .int p1, .int p2]) (va_Ql (fun r (_ : Unit) => r = r0 ∧ True) (fun _ t => va_P G vwCl [] t.heap) (va_A [] sz)) 0 0 (va_A [] sz) := by
  refine Met.ofW (cc := cX3_weightOf) (maxL := 6) (ret := (some .long)) (by decide) rfl ?_
  intro p e s m args below meth c s₁ B hml hv
  obtain ⟨rfl, hsz, hP, hK, hD0⟩ := hv
  have hx := B.exec
  have hb := B.bytes
  have hr := B.returns
  have hts := atoms_spec (ws := wsX3_weightOf) B.pre
  have hta : ∀ w ∈ wA, w.before ([.long p0, .int p1, .int p2] : List Value).toArray s = true := hta_of hts
  have hown : s.vm.findClass RX3 = some m.cls := findClass_of_methodNamed B.named
  have hlocks := B.notSynchronized
  subst hsz
  have hD := hD0.self (sz := s.heap.size)
  generalize hAe : va_A [] s.heap.size = A at hD ⊢
  have hA : ∀ q : Nat, s.heap.size ≤ q → A q := fun q h => by rw [← hAe]; exact Or.inr h
  have hS : va_S A s.heap s.heap [] := va_S.rf
  have hl := lv_entry ([.long p0, .int p1, .int p2]) (n := 6) (Nat.le_of_ble_eq_true rfl)
  rw [lg_entry_eq]
  generalize (lg_sl ([.long p0, .int p1, .int p2]) ++ List.replicate (6 - (lg_sl ([.long p0, .int p1, .int p2])).length) Slot.unset).toArray = ls at hl ⊢
  have hl : lv_has ls 6 [(0, .long p0), (2, .int p1), (3, .int p2)] := hl
  have h := hF
  unfold F_X3_weightOf at h
  refine lv_iload_n hx hb dX3_weightOf_0 rfl (lv_at hl 1 rfl) ?_
  refine lv_iconst (v := (2 : Int32)) hx hb dX3_weightOf_1 (by decide) ?_
  refine lv_icmp_ne (tgt := 12) hx hb dX3_weightOf_2 (by decide) (fun c1 => ?_) (fun c1 => ?_)
  rotate_left
  · have h := it_p h c1
    refine lv_lload_n hx hb dX3_weightOf_5 rfl (lv_at hl 0 rfl) ?_
    refine lv_iload_n hx hb dX3_weightOf_6 rfl (lv_at hl 2 rfl) ?_
    obtain ⟨x4, hx4, h⟩ := bd_e h
    try dsimp only at h
    refine k_SiU (n := 2) (As := [.long p0, .int p2]) (rest := []) hx hb hml hown hts (c_X3_timesThere l G cI cJ cD cH s.heap.size p0 p2 x4 hx4) gX3_weightOf_X3_timesThere rfl rfl rfl (by decide +kernel) ⟨by first | exact Nat.le_of_ble_eq_true rfl | (simp only [headSpec]; omega), by first | exact Nat.le_of_ble_eq_true rfl | (simp only [headSpec]; omega)⟩ hK hP hD hS hA [] (by decide) rfl rfl rfl hl.1 (Nat.le_of_ble_eq_true rfl) dX3_weightOf_7 ⟨Nat.zero_le _, Nat.zero_le _⟩ (fun hp4 H locs hP hS => ?_)
    refine lv_i2l (v := x4.toInt64) hx hb dX3_weightOf_10 (by first | rfl | decide) ?_
    have h9 := Option.some.inj h
    have e9 : x4.toInt64 = r0 := congrArg (fun z9 => z9) h9
    rw [← e9]
    exact k_lret hx hb hr hlocks hP hS rfl dX3_weightOf_11
  have h := it_n h c1
  refine lv_iconst (v := (0 : Int32)) hx hb dX3_weightOf_12 (by decide) ?_
  refine lv_istore (lv' := [(4, .int (0 : Int32)), (0, .long p0), (2, .int p1), (3, .int p2)]) hx hb dX3_weightOf_13 hl (by decide) rfl (fun ls hl => ?_)
  refine lv_iconst (v := (0 : Int32)) hx hb dX3_weightOf_15 (by decide) ?_
  refine lv_istore (lv' := [(5, .int (0 : Int32)), (4, .int (0 : Int32)), (0, .long p0), (2, .int p1), (3, .int p2)]) hx hb dX3_weightOf_16 hl (by decide) rfl (fun ls hl => ?_)
  have hL18 : ∀ (n18 : Nat) (vL18_0 : Int32) (vL18_1 : Int32) (H : Heap) (locs : List Loc) (ls : Array Slot), va_P G vwCl [] H → va_D A [] → va_S A s.heap H locs → lv_has ls 6 [(0, .long p0), (4, .int vL18_0), (5, .int vL18_1)] → wq2 (B_X3_weightOf_18 p0 (K_X3_weightOf_18_42 p0)) n18 vL18_0 vL18_1 = some r0 → W p l e (headSpec wsX3_weightOf ({ frames := 1, cells := 0, slots := 0, locals := 22 })).room s m ([.long p0, .int p1, .int p2] : List Value).toArray below meth c H locs 0 0 (MQ below (va_Ql (fun r (_ : Unit) => r = r0 ∧ True) (fun _ t => va_P G vwCl [] t.heap) A) ([.long p0, .int p1, .int p2] : List Value).toArray s 0 0 A) (F0 m 18 ls []) := by
    intro n18
    induction n18 with
    | zero => intro vL18_0 vL18_1 H locs ls hP hD hS hl h; exact wq2_0 h
    | succ n18 ih18 =>
      intro vL18_0 vL18_1 H locs ls hP hD hS hl h
      have h := wq2_s h
      unfold B_X3_weightOf_18 at h
      refine lv_iload hx hb dX3_weightOf_18 (lv_at hl 2 rfl) ?_
      refine lv_bipush (v := (14 : Int32)) hx hb dX3_weightOf_20 (by decide) ?_
      refine lv_icmp_gt (tgt := 42) hx hb dX3_weightOf_22 (by decide) (fun c2 => ?_) (fun c2 => ?_)
      · have h := it_p h c2
        exact tK_X3_weightOf_18_42 hx hb hr hml hts hown hlocks hK hA vL18_0 _ _ _ hP hD hS (lv_sub hl [0, 1] rfl) h
      have h := it_n h c2
      refine lv_iload hx hb dX3_weightOf_25 (lv_at hl 1 rfl) ?_
      refine lv_lload_n hx hb dX3_weightOf_27 rfl (lv_at hl 0 rfl) ?_
      refine lv_iload hx hb dX3_weightOf_28 (lv_at hl 2 rfl) ?_
      obtain ⟨x3, hx3, h⟩ := bd_e h
      try dsimp only at h
      refine k_SiU (n := 2) (As := [.long p0, .int vL18_1]) (rest := [.int vL18_0]) hx hb hml hown hts (c_X3_timesThere l G cI cJ cD cH H.size p0 vL18_1 x3 hx3) gX3_weightOf_X3_timesThere rfl rfl rfl (by decide +kernel) ⟨by first | exact Nat.le_of_ble_eq_true rfl | (simp only [headSpec]; omega), by first | exact Nat.le_of_ble_eq_true rfl | (simp only [headSpec]; omega)⟩ hK hP hD hS hA [] (by decide) rfl rfl rfl hl.1 (Nat.le_of_ble_eq_true rfl) dX3_weightOf_30 ⟨Nat.zero_le _, Nat.zero_le _⟩ (fun hp3 H locs hP hS => ?_)
      refine lv_iadd hx hb dX3_weightOf_33 ?_
      refine lv_istore (lv' := [(4, .int (vL18_0 + x3)), (0, .long p0), (5, .int vL18_1)]) hx hb dX3_weightOf_34 hl (by decide) rfl (fun ls hl => ?_)
      refine lv_iinc (v := (vL18_1 + (1 : Int32))) (lv' := [(5, .int (vL18_1 + (1 : Int32))), (4, .int (vL18_0 + x3)), (0, .long p0)]) hx hb dX3_weightOf_36 hl (k := 2) rfl (by first | rfl | decide) (by decide) rfl (fun ls hl => ?_)
      refine lv_goto (tgt := 18) hx hb dX3_weightOf_39 (by decide) ?_
      exact ih18 (vL18_0 + x3) (vL18_1 + (1 : Int32)) _ _ _ hP hD hS (lv_sub hl [2, 1, 0] rfl) h
  exact hL18 FU (0 : Int32) (0 : Int32) _ _ _ hP hD hS (lv_sub hl [2, 1, 0] rfl) h

/-! X3_slotOf -/
set_option maxHeartbeats 4000000 in
set_option maxRecDepth 100000 in
theorem c_X3_slotOf (l : Launch) (G : va_G) (cI cJ cD cH : ClassId) (sz : Nat) (h_t : Nat) (h_t_keys : Nat) (h_t_aboves : Nat) (h_t_rounds : Nat) (t_round : Int32) (t_size : Int32) (t_sum : Int32) (t_gathered : Int64) (a_t_keys : Nat → Int64) (p0 : Int64) (r0 : Int32) (hF : F_X3_slotOf a_t_keys p0 = some r0) : Met l yX3_slotOf wsX3_slotOf ({ frames := 0, cells := 0, slots := 0, locals := 0 }) (k_pre G (k_T cI cJ cD cH) [(h_t, .inr (3, [.ref h_t_keys, .ref h_t_aboves, .ref h_t_rounds, .int t_round, .int t_size, .int t_sum, .long t_gathered])), (h_t_keys, .inl (cJ, 1024, .inr (.inl a_t_keys)))] sz [.ref h_t, .long p0]) (va_Qi (fun r (_ : Unit) => r = r0 ∧ True) (fun _ t => va_P G vwCl [(h_t, .inr (3, [.ref h_t_keys, .ref h_t_aboves, .ref h_t_rounds, .int t_round, .int t_size, .int t_sum, .long t_gathered])), (h_t_keys, .inl (cJ, 1024, .inr (.inl a_t_keys)))] t.heap) (va_A [(h_t, .inr (3, [.ref h_t_keys, .ref h_t_aboves, .ref h_t_rounds, .int t_round, .int t_size, .int t_sum, .long t_gathered])), (h_t_keys, .inl (cJ, 1024, .inr (.inl a_t_keys)))] sz)) 0 0 (va_A [(h_t, .inr (3, [.ref h_t_keys, .ref h_t_aboves, .ref h_t_rounds, .int t_round, .int t_size, .int t_sum, .long t_gathered])), (h_t_keys, .inl (cJ, 1024, .inr (.inl a_t_keys)))] sz) := by
  refine Met.ofW (cc := cX3_slotOf) (maxL := 5) (ret := (some .int)) (by decide) rfl ?_
  intro p e s m args below meth c s₁ B hml hv
  obtain ⟨rfl, hsz, hP, hK, hD0⟩ := hv
  have hx := B.exec
  have hb := B.bytes
  have hr := B.returns
  have hts := atoms_spec (ws := wsX3_slotOf) B.pre
  have hta : ∀ w ∈ wA, w.before ([.ref h_t, .long p0] : List Value).toArray s = true := hta_of hts
  have hown : s.vm.findClass RX3 = some m.cls := findClass_of_methodNamed B.named
  have hlocks := B.notSynchronized
  subst hsz
  have hD := hD0.self (sz := s.heap.size)
  generalize hAe : va_A [(h_t, .inr (3, [.ref h_t_keys, .ref h_t_aboves, .ref h_t_rounds, .int t_round, .int t_size, .int t_sum, .long t_gathered])), (h_t_keys, .inl (cJ, 1024, .inr (.inl a_t_keys)))] s.heap.size = A at hD ⊢
  have hA : ∀ q : Nat, s.heap.size ≤ q → A q := fun q h => by rw [← hAe]; exact Or.inr h
  have hS : va_S A s.heap s.heap [] := va_S.rf
  have hl := lv_entry ([.ref h_t, .long p0]) (n := 5) (Nat.le_of_ble_eq_true rfl)
  rw [lg_entry_eq]
  generalize (lg_sl ([.ref h_t, .long p0]) ++ List.replicate (5 - (lg_sl ([.ref h_t, .long p0])).length) Slot.unset).toArray = ls at hl ⊢
  have hl : lv_has ls 5 [(0, .ref h_t), (1, .long p0)] := hl
  have hinX3 : ∀ w ∈ wsX30, w ∈ wsX3_slotOf := hin_of in_X3
  have h := hF
  unfold F_X3_slotOf at h
  refine lv_lload_n hx hb dX3_slotOf_0 rfl (lv_at hl 1 rfl) ?_
  refine lv_ldc2 (v := (-7046029254386353131 : Int64)) hx hb hown (hta _ mw_155) dX3_slotOf_1 ?_
  refine lv_lmul hx hb dX3_slotOf_4 ?_
  refine lv_bipush (v := (54 : Int32)) hx hb dX3_slotOf_5 (by decide) ?_
  refine lv_lushr (v := (lush (p0 * (-7046029254386353131 : Int64)) (54 : Int32))) hx hb dX3_slotOf_7 rfl ?_
  refine lv_l2i (v := (lush (p0 * (-7046029254386353131 : Int64)) (54 : Int32)).toInt32) hx hb dX3_slotOf_8 rfl ?_
  refine lv_sipush (v := (1023 : Int32)) hx hb dX3_slotOf_9 (by decide) ?_
  refine lv_iand hx hb dX3_slotOf_12 ?_
  refine lv_istore_n (lv' := [(3, .int ((lush (p0 * (-7046029254386353131 : Int64)) (54 : Int32)).toInt32 &&& (1023 : Int32))), (0, .ref h_t), (1, .long p0)]) hx hb dX3_slotOf_13 rfl hl (by decide) rfl (fun ls hl => ?_)
  refine lv_iconst (v := (0 : Int32)) hx hb dX3_slotOf_14 (by decide) ?_
  refine lv_istore (lv' := [(4, .int (0 : Int32)), (3, .int ((lush (p0 * (-7046029254386353131 : Int64)) (54 : Int32)).toInt32 &&& (1023 : Int32))), (0, .ref h_t), (1, .long p0)]) hx hb dX3_slotOf_15 hl (by decide) rfl (fun ls hl => ?_)
  have hK_X3_slotOf_17_63 : ∀ (H : Heap) (locs : List Loc) (ls : Array Slot), va_P G vwCl [(h_t, .inr (3, [.ref h_t_keys, .ref h_t_aboves, .ref h_t_rounds, .int t_round, .int t_size, .int t_sum, .long t_gathered])), (h_t_keys, .inl (cJ, 1024, .inr (.inl a_t_keys)))] H → va_D A [(h_t, .inr (3, [.ref h_t_keys, .ref h_t_aboves, .ref h_t_rounds, .int t_round, .int t_size, .int t_sum, .long t_gathered])), (h_t_keys, .inl (cJ, 1024, .inr (.inl a_t_keys)))] → va_S A s.heap H locs → lv_has ls 5 [] → K_X3_slotOf_17_63 = some r0 → W p l e (headSpec wsX3_slotOf ({ frames := 0, cells := 0, slots := 0, locals := 0 })).room s m ([.ref h_t, .long p0] : List Value).toArray below meth c H locs 0 0 (MQ below (va_Qi (fun r (_ : Unit) => r = r0 ∧ True) (fun _ t => va_P G vwCl [(h_t, .inr (3, [.ref h_t_keys, .ref h_t_aboves, .ref h_t_rounds, .int t_round, .int t_size, .int t_sum, .long t_gathered])), (h_t_keys, .inl (cJ, 1024, .inr (.inl a_t_keys)))] t.heap) A) ([.ref h_t, .long p0] : List Value).toArray s 0 0 A) (F0 m 63 ls []) := by
    intro  H locs ls hP hD hS hl h
    unfold K_X3_slotOf_17_63 at h
    refine lv_iconst (v := (-1 : Int32)) hx hb dX3_slotOf_63 (by decide) ?_
    have h9 := Option.some.inj h
    have e9 : (-1 : Int32) = r0 := congrArg (fun z9 => z9) h9
    rw [← e9]
    exact k_iret hx hb hr hlocks hP hS rfl dX3_slotOf_64
  have hL17 : ∀ (n17 : Nat) (vL17_0 : Int32) (vL17_1 : Int32) (H : Heap) (locs : List Loc) (ls : Array Slot), va_P G vwCl [(h_t, .inr (3, [.ref h_t_keys, .ref h_t_aboves, .ref h_t_rounds, .int t_round, .int t_size, .int t_sum, .long t_gathered])), (h_t_keys, .inl (cJ, 1024, .inr (.inl a_t_keys)))] H → va_D A [(h_t, .inr (3, [.ref h_t_keys, .ref h_t_aboves, .ref h_t_rounds, .int t_round, .int t_size, .int t_sum, .long t_gathered])), (h_t_keys, .inl (cJ, 1024, .inr (.inl a_t_keys)))] → va_S A s.heap H locs → lv_has ls 5 [(0, .ref h_t), (1, .long p0), (3, .int vL17_0), (4, .int vL17_1)] → wq2 (B_X3_slotOf_17 a_t_keys p0 K_X3_slotOf_17_63) n17 vL17_0 vL17_1 = some r0 → W p l e (headSpec wsX3_slotOf ({ frames := 0, cells := 0, slots := 0, locals := 0 })).room s m ([.ref h_t, .long p0] : List Value).toArray below meth c H locs 0 0 (MQ below (va_Qi (fun r (_ : Unit) => r = r0 ∧ True) (fun _ t => va_P G vwCl [(h_t, .inr (3, [.ref h_t_keys, .ref h_t_aboves, .ref h_t_rounds, .int t_round, .int t_size, .int t_sum, .long t_gathered])), (h_t_keys, .inl (cJ, 1024, .inr (.inl a_t_keys)))] t.heap) A) ([.ref h_t, .long p0] : List Value).toArray s 0 0 A) (F0 m 17 ls []) := by
    intro n17
    induction n17 with
    | zero => intro vL17_0 vL17_1 H locs ls hP hD hS hl h; exact wq2_0 h
    | succ n17 ih17 =>
      intro vL17_0 vL17_1 H locs ls hP hD hS hl h
      have h := wq2_s h
      unfold B_X3_slotOf_17 at h
      refine lv_iload hx hb dX3_slotOf_17 (lv_at hl 3 rfl) ?_
      refine lv_sipush (v := (1024 : Int32)) hx hb dX3_slotOf_19 (by decide) ?_
      refine lv_icmp_ge (tgt := 63) hx hb dX3_slotOf_22 (by decide) (fun c1 => ?_) (fun c1 => ?_)
      · have h := it_p h c1
        exact hK_X3_slotOf_17_63  _ _ _ hP hD hS (lv_sub hl [] rfl) h
      have h := it_n h c1
      refine lv_aload_n hx hb dX3_slotOf_25 rfl (lv_at hl 0 rfl) ?_
      refine va_get (D := G) (ci := 3) (v := .ref h_t_keys) (C := RX3) (T := TX3) (N := 7) hx hb hts hinX3 hown hK hP 0 rfl rfl 0 (by decide) (hta _ mw_114) (fun _ h9 => h9) rfl dX3_slotOf_26 ?_
      refine lv_iload_n hx hb dX3_slotOf_29 rfl (lv_at hl 2 rfl) ?_
      obtain ⟨hn2, h⟩ := ck_e h
      refine va_lald hx hb hK hP 1 1 rfl rfl hn2 dX3_slotOf_30 ?_
      refine lv_lload_n hx hb dX3_slotOf_31 rfl (lv_at hl 1 rfl) ?_
      refine W.lcmp hx hb dX3_slotOf_32 ?_
      refine lv_if_eq (tgt := 47) hx hb dX3_slotOf_33 (by decide) (fun c3 => ?_) (fun c3 => ?_)
      · have h := it_p h c3
        refine lv_iload_n hx hb dX3_slotOf_47 rfl (lv_at hl 2 rfl) ?_
        have h9 := Option.some.inj h
        have e9 : vL17_0 = r0 := congrArg (fun z9 => z9) h9
        rw [← e9]
        exact k_iret hx hb hr hlocks hP hS rfl dX3_slotOf_48
      have h := it_n h c3
      refine lv_aload_n hx hb dX3_slotOf_36 rfl (lv_at hl 0 rfl) ?_
      refine va_get (D := G) (ci := 3) (v := .ref h_t_keys) (C := RX3) (T := TX3) (N := 7) hx hb hts hinX3 hown hK hP 0 rfl rfl 0 (by decide) (hta _ mw_114) (fun _ h9 => h9) rfl dX3_slotOf_37 ?_
      refine lv_iload_n hx hb dX3_slotOf_40 rfl (lv_at hl 2 rfl) ?_
      obtain ⟨hn4, h⟩ := ck_e h
      refine va_lald hx hb hK hP 1 1 rfl rfl hn4 dX3_slotOf_41 ?_
      refine lv_lconst (v := (0 : Int64)) hx hb dX3_slotOf_42 (by decide) ?_
      refine W.lcmp hx hb dX3_slotOf_43 ?_
      refine lv_if_ne (tgt := 49) hx hb dX3_slotOf_44 (by decide) (fun c5 => ?_) (fun c5 => ?_)
      rotate_left
      · have h := it_p h c5
        refine lv_iload_n hx hb dX3_slotOf_47 rfl (lv_at hl 2 rfl) ?_
        have h9 := Option.some.inj h
        have e9 : vL17_0 = r0 := congrArg (fun z9 => z9) h9
        rw [← e9]
        exact k_iret hx hb hr hlocks hP hS rfl dX3_slotOf_48
      have h := it_n h c5
      refine lv_iload_n hx hb dX3_slotOf_49 rfl (lv_at hl 2 rfl) ?_
      refine lv_iconst (v := (1 : Int32)) hx hb dX3_slotOf_50 (by decide) ?_
      refine lv_iadd hx hb dX3_slotOf_51 ?_
      refine lv_sipush (v := (1023 : Int32)) hx hb dX3_slotOf_52 (by decide) ?_
      refine lv_iand hx hb dX3_slotOf_55 ?_
      refine lv_istore_n (lv' := [(3, .int ((vL17_0 + (1 : Int32)) &&& (1023 : Int32))), (0, .ref h_t), (1, .long p0), (4, .int vL17_1)]) hx hb dX3_slotOf_56 rfl hl (by decide) rfl (fun ls hl => ?_)
      refine lv_iinc (v := (vL17_1 + (1 : Int32))) (lv' := [(4, .int (vL17_1 + (1 : Int32))), (3, .int ((vL17_0 + (1 : Int32)) &&& (1023 : Int32))), (0, .ref h_t), (1, .long p0)]) hx hb dX3_slotOf_57 hl (k := 3) rfl (by first | rfl | decide) (by decide) rfl (fun ls hl => ?_)
      refine lv_goto (tgt := 17) hx hb dX3_slotOf_60 (by decide) ?_
      exact ih17 ((vL17_0 + (1 : Int32)) &&& (1023 : Int32)) (vL17_1 + (1 : Int32)) _ _ _ hP hD hS (lv_sub hl [2, 3, 1, 0] rfl) h
  exact hL17 FU ((lush (p0 * (-7046029254386353131 : Int64)) (54 : Int32)).toInt32 &&& (1023 : Int32)) (0 : Int32) _ _ _ hP hD hS (lv_sub hl [2, 3, 1, 0] rfl) h

/-! X3_keep -/
set_option maxHeartbeats 4000000 in
set_option maxRecDepth 100000 in
theorem c_X3_keep (l : Launch) (G : va_G) (cI cJ cD cH : ClassId) (sz : Nat) (h_t : Nat) (h_t_keys : Nat) (h_t_aboves : Nat) (h_t_rounds : Nat) (t_round : Int32) (t_size : Int32) (t_sum : Int32) (t_gathered : Int64) (a_t_keys : Nat → Int64) (a_t_aboves : Nat → Int64) (p0 : Int64) (p1 : Int64) (w0 : Nat → Int64) (w1 : Nat → Int64) (hF : F_X3_keep a_t_keys a_t_aboves p0 p1 = some (w0, w1)) : Met l yX3_keep wsX3_keep ({ frames := 1, cells := 0, slots := 0, locals := 24 }) (k_pre G (k_T cI cJ cD cH) [(h_t, .inr (3, [.ref h_t_keys, .ref h_t_aboves, .ref h_t_rounds, .int t_round, .int t_size, .int t_sum, .long t_gathered])), (h_t_keys, .inl (cJ, 1024, .inr (.inl a_t_keys))), (h_t_aboves, .inl (cJ, 1024, .inr (.inl a_t_aboves)))] sz [.ref h_t, .long p0, .long p1]) (va_Qv (fun (_ : Unit) => True) (fun _ t => va_P G vwCl [(h_t, .inr (3, [.ref h_t_keys, .ref h_t_aboves, .ref h_t_rounds, .int t_round, .int t_size, .int t_sum, .long t_gathered])), (h_t_keys, .inl (cJ, 1024, .inr (.inl w0))), (h_t_aboves, .inl (cJ, 1024, .inr (.inl w1)))] t.heap) (va_A [(h_t, .inr (3, [.ref h_t_keys, .ref h_t_aboves, .ref h_t_rounds, .int t_round, .int t_size, .int t_sum, .long t_gathered])), (h_t_keys, .inl (cJ, 1024, .inr (.inl a_t_keys))), (h_t_aboves, .inl (cJ, 1024, .inr (.inl a_t_aboves)))] sz)) 0 0 (va_A [(h_t, .inr (3, [.ref h_t_keys, .ref h_t_aboves, .ref h_t_rounds, .int t_round, .int t_size, .int t_sum, .long t_gathered])), (h_t_keys, .inl (cJ, 1024, .inr (.inl a_t_keys))), (h_t_aboves, .inl (cJ, 1024, .inr (.inl a_t_aboves)))] sz) := by
  refine Met.ofW (cc := cX3_keep) (maxL := 6) (ret := none) (by decide) rfl ?_
  intro p e s m args below meth c s₁ B hml hv
  obtain ⟨rfl, hsz, hP, hK, hD0⟩ := hv
  have hx := B.exec
  have hb := B.bytes
  have hr := B.returns
  have hts := atoms_spec (ws := wsX3_keep) B.pre
  have hta : ∀ w ∈ wA, w.before ([.ref h_t, .long p0, .long p1] : List Value).toArray s = true := hta_of hts
  have hown : s.vm.findClass RX3 = some m.cls := findClass_of_methodNamed B.named
  have hlocks := B.notSynchronized
  subst hsz
  have hD := hD0.self (sz := s.heap.size)
  generalize hAe : va_A [(h_t, .inr (3, [.ref h_t_keys, .ref h_t_aboves, .ref h_t_rounds, .int t_round, .int t_size, .int t_sum, .long t_gathered])), (h_t_keys, .inl (cJ, 1024, .inr (.inl a_t_keys))), (h_t_aboves, .inl (cJ, 1024, .inr (.inl a_t_aboves)))] s.heap.size = A at hD ⊢
  have hA : ∀ q : Nat, s.heap.size ≤ q → A q := fun q h => by rw [← hAe]; exact Or.inr h
  have hS : va_S A s.heap s.heap [] := va_S.rf
  have hl := lv_entry ([.ref h_t, .long p0, .long p1]) (n := 6) (Nat.le_of_ble_eq_true rfl)
  rw [lg_entry_eq]
  generalize (lg_sl ([.ref h_t, .long p0, .long p1]) ++ List.replicate (6 - (lg_sl ([.ref h_t, .long p0, .long p1])).length) Slot.unset).toArray = ls at hl ⊢
  have hl : lv_has ls 6 [(0, .ref h_t), (1, .long p0), (3, .long p1)] := hl
  have hinX3 : ∀ w ∈ wsX30, w ∈ wsX3_keep := hin_of in_X3
  have h := hF
  unfold F_X3_keep at h
  refine lv_aload_n hx hb dX3_keep_0 rfl (lv_at hl 0 rfl) ?_
  refine lv_lload_n hx hb dX3_keep_1 rfl (lv_at hl 1 rfl) ?_
  obtain ⟨x1, hx1, h⟩ := bd_e h
  try dsimp only at h
  refine k_ViU (n := 1) (As := [.long p0]) (rest := []) hx hb hml hown hts (c_X3_slotOf l G cI cJ cD cH s.heap.size h_t h_t_keys h_t_aboves h_t_rounds t_round t_size t_sum t_gathered a_t_keys p0 x1 hx1) gX3_keep_X3_slotOf rfl rfl rfl (by decide +kernel) ⟨by first | exact Nat.le_of_ble_eq_true rfl | (simp only [headSpec]; omega), by first | exact Nat.le_of_ble_eq_true rfl | (simp only [headSpec]; omega)⟩ hK hP hD hS hA [0, 1] (by decide) rfl (ci := 3) rfl rfl rfl rfl rfl hl.1 (Nat.le_of_ble_eq_true rfl) dX3_keep_2 ⟨Nat.zero_le _, Nat.zero_le _⟩ (fun hp1 H locs hP hS => ?_)
  refine lv_istore (lv' := [(5, .int x1), (0, .ref h_t), (1, .long p0), (3, .long p1)]) hx hb dX3_keep_5 hl (by decide) rfl (fun ls hl => ?_)
  refine lv_iload hx hb dX3_keep_7 (lv_at hl 0 rfl) ?_
  refine lv_iconst (v := (-1 : Int32)) hx hb dX3_keep_9 (by decide) ?_
  refine lv_icmp_eq (tgt := 29) hx hb dX3_keep_10 (by decide) (fun c2 => ?_) (fun c2 => ?_)
  · have h := it_p h c2
    have h9 := Option.some.inj h
    have e9 : a_t_keys = w0 := congrArg (fun z9 => z9.1) h9
    rw [← e9]
    have e9 : a_t_aboves = w1 := congrArg (fun z9 => z9.2) h9
    rw [← e9]
    exact k_vret hx hb hr hlocks hP hS dX3_keep_29
  have h := it_n h c2
  refine lv_aload_n hx hb dX3_keep_13 rfl (lv_at hl 1 rfl) ?_
  refine va_get (D := G) (ci := 3) (v := .ref h_t_keys) (C := RX3) (T := TX3) (N := 7) hx hb hts hinX3 hown hK hP 0 rfl rfl 0 (by decide) (hta _ mw_114) (fun _ h9 => h9) rfl dX3_keep_14 ?_
  refine lv_iload hx hb dX3_keep_17 (lv_at hl 0 rfl) ?_
  refine lv_lload_n hx hb dX3_keep_19 rfl (lv_at hl 2 rfl) ?_
  obtain ⟨hn3, h⟩ := ck_e h
  refine va_last hx hb hK hP hD hS 1 1 rfl rfl hn3 dX3_keep_20 (fun H locs hP hD hS => ?_)
  have hP : va_P G vwCl [(h_t, .inr (3, [.ref h_t_keys, .ref h_t_aboves, .ref h_t_rounds, .int t_round, .int t_size, .int t_sum, .long t_gathered])), (h_t_keys, .inl (cJ, 1024, .inr (.inl (vp_updL a_t_keys x1.toNatClampNeg p0)))), (h_t_aboves, .inl (cJ, 1024, .inr (.inl a_t_aboves)))] H := hP
  have hD : va_D A [(h_t, .inr (3, [.ref h_t_keys, .ref h_t_aboves, .ref h_t_rounds, .int t_round, .int t_size, .int t_sum, .long t_gathered])), (h_t_keys, .inl (cJ, 1024, .inr (.inl (vp_updL a_t_keys x1.toNatClampNeg p0)))), (h_t_aboves, .inl (cJ, 1024, .inr (.inl a_t_aboves)))] := hD
  refine lv_aload_n hx hb dX3_keep_21 rfl (lv_at hl 1 rfl) ?_
  refine va_get (D := G) (ci := 3) (v := .ref h_t_aboves) (C := RX3) (T := TX3) (N := 7) hx hb hts hinX3 hown hK hP 0 rfl rfl 1 (by decide) (hta _ mw_115) (fun _ h9 => h9) rfl dX3_keep_22 ?_
  refine lv_iload hx hb dX3_keep_25 (lv_at hl 0 rfl) ?_
  refine lv_lload_n hx hb dX3_keep_27 rfl (lv_at hl 3 rfl) ?_
  obtain ⟨hn4, h⟩ := ck_e h
  refine va_last hx hb hK hP hD hS 2 1 rfl rfl hn4 dX3_keep_28 (fun H locs hP hD hS => ?_)
  have hP : va_P G vwCl [(h_t, .inr (3, [.ref h_t_keys, .ref h_t_aboves, .ref h_t_rounds, .int t_round, .int t_size, .int t_sum, .long t_gathered])), (h_t_keys, .inl (cJ, 1024, .inr (.inl (vp_updL a_t_keys x1.toNatClampNeg p0)))), (h_t_aboves, .inl (cJ, 1024, .inr (.inl (vp_updL a_t_aboves x1.toNatClampNeg p1))))] H := hP
  have hD : va_D A [(h_t, .inr (3, [.ref h_t_keys, .ref h_t_aboves, .ref h_t_rounds, .int t_round, .int t_size, .int t_sum, .long t_gathered])), (h_t_keys, .inl (cJ, 1024, .inr (.inl (vp_updL a_t_keys x1.toNatClampNeg p0)))), (h_t_aboves, .inl (cJ, 1024, .inr (.inl (vp_updL a_t_aboves x1.toNatClampNeg p1))))] := hD
  have h9 := Option.some.inj h
  have e9 : (vp_updL a_t_keys x1.toNatClampNeg p0) = w0 := congrArg (fun z9 => z9.1) h9
  rw [← e9]
  have e9 : (vp_updL a_t_aboves x1.toNatClampNeg p1) = w1 := congrArg (fun z9 => z9.2) h9
  rw [← e9]
  exact k_vret hx hb hr hlocks hP hS dX3_keep_29

/-! X3_workOut -/
set_option maxHeartbeats 4000000 in
set_option maxRecDepth 100000 in
theorem c_X3_workOut (l : Launch) : ∀ (d : Nat) (G : va_G) (cI cJ cD cH : ClassId) (sz : Nat) (h_t : Nat) (h_t_keys : Nat) (h_t_aboves : Nat) (h_t_rounds : Nat) (t_round : Int32) (t_size : Int32) (t_sum : Int32) (t_gathered : Int64) (a_t_keys : Nat → Int64) (a_t_aboves : Nat → Int64) (p0 : Int64) (p1 : Int32) (r0 : Int64) (w0 : Nat → Int64) (w1 : Nat → Int64) (hF : F_X3_workOut d a_t_keys a_t_aboves p0 p1 = some (r0, w0, w1)), Met l yX3_workOut wsX3_workOut ({ frames := d + 2, cells := 0, slots := 0, locals := 30 * d + 49 }) (k_pre G (k_T cI cJ cD cH) [(h_t, .inr (3, [.ref h_t_keys, .ref h_t_aboves, .ref h_t_rounds, .int t_round, .int t_size, .int t_sum, .long t_gathered])), (h_t_keys, .inl (cJ, 1024, .inr (.inl a_t_keys))), (h_t_aboves, .inl (cJ, 1024, .inr (.inl a_t_aboves)))] sz [.ref h_t, .long p0, .int p1]) (va_Ql (fun r (_ : Unit) => r = r0 ∧ True) (fun _ t => va_P G vwCl [(h_t, .inr (3, [.ref h_t_keys, .ref h_t_aboves, .ref h_t_rounds, .int t_round, .int t_size, .int t_sum, .long t_gathered])), (h_t_keys, .inl (cJ, 1024, .inr (.inl w0))), (h_t_aboves, .inl (cJ, 1024, .inr (.inl w1)))] t.heap) (va_A [(h_t, .inr (3, [.ref h_t_keys, .ref h_t_aboves, .ref h_t_rounds, .int t_round, .int t_size, .int t_sum, .long t_gathered])), (h_t_keys, .inl (cJ, 1024, .inr (.inl a_t_keys))), (h_t_aboves, .inl (cJ, 1024, .inr (.inl a_t_aboves)))] sz)) 0 0 (va_A [(h_t, .inr (3, [.ref h_t_keys, .ref h_t_aboves, .ref h_t_rounds, .int t_round, .int t_size, .int t_sum, .long t_gathered])), (h_t_keys, .inl (cJ, 1024, .inr (.inl a_t_keys))), (h_t_aboves, .inl (cJ, 1024, .inr (.inl a_t_aboves)))] sz) := by
  intro d
  induction d with
  | zero => intro G cI cJ cD cH sz h_t h_t_keys h_t_aboves h_t_rounds t_round t_size t_sum t_gathered a_t_keys a_t_aboves p0 p1 r0 w0 w1 hF; cases hF
  | succ d ihd =>
    intro G cI cJ cD cH sz h_t h_t_keys h_t_aboves h_t_rounds t_round t_size t_sum t_gathered a_t_keys a_t_aboves p0 p1 r0 w0 w1 hF
    refine Met.ofW (cc := cX3_workOut) (maxL := 11) (ret := (some .long)) (by decide) rfl ?_
    intro p e s m args below meth c s₁ B hml hv
    obtain ⟨rfl, hsz, hP, hK, hD0⟩ := hv
    have hx := B.exec
    have hb := B.bytes
    have hr := B.returns
    have hts := atoms_spec (ws := wsX3_workOut) B.pre
    have hta : ∀ w ∈ wA, w.before ([.ref h_t, .long p0, .int p1] : List Value).toArray s = true := hta_of hts
    have hown : s.vm.findClass RX3 = some m.cls := findClass_of_methodNamed B.named
    have hlocks := B.notSynchronized
    subst hsz
    have hD := hD0.self (sz := s.heap.size)
    generalize hAe : va_A [(h_t, .inr (3, [.ref h_t_keys, .ref h_t_aboves, .ref h_t_rounds, .int t_round, .int t_size, .int t_sum, .long t_gathered])), (h_t_keys, .inl (cJ, 1024, .inr (.inl a_t_keys))), (h_t_aboves, .inl (cJ, 1024, .inr (.inl a_t_aboves)))] s.heap.size = A at hD ⊢
    have hA : ∀ q : Nat, s.heap.size ≤ q → A q := fun q h => by rw [← hAe]; exact Or.inr h
    have hS : va_S A s.heap s.heap [] := va_S.rf
    have hl := lv_entry ([.ref h_t, .long p0, .int p1]) (n := 11) (Nat.le_of_ble_eq_true rfl)
    rw [lg_entry_eq]
    generalize (lg_sl ([.ref h_t, .long p0, .int p1]) ++ List.replicate (11 - (lg_sl ([.ref h_t, .long p0, .int p1])).length) Slot.unset).toArray = ls at hl ⊢
    have hl : lv_has ls 11 [(0, .ref h_t), (1, .long p0), (3, .int p1)] := hl
    have hinX3 : ∀ w ∈ wsX30, w ∈ wsX3_workOut := hin_of in_X3
    have h : G_X3_workOut (F_X3_workOut d) a_t_keys a_t_aboves p0 p1 = some (r0, w0, w1) := hF
    unfold G_X3_workOut at h
    refine lv_lload_n hx hb dX3_workOut_0 rfl (lv_at hl 1 rfl) ?_
    refine lv_lconst (v := (0 : Int64)) hx hb dX3_workOut_1 (by decide) ?_
    refine W.lcmp hx hb dX3_workOut_2 ?_
    refine lv_if_eq (tgt := 12) hx hb dX3_workOut_3 (by decide) (fun c1 => ?_) (fun c1 => ?_)
    · have h := it_p h c1
      refine lv_lconst (v := (0 : Int64)) hx hb dX3_workOut_12 (by decide) ?_
      have h9 := Option.some.inj h
      have e9 : (0 : Int64) = r0 := congrArg (fun z9 => z9.1) h9
      rw [← e9]
      have e9 : a_t_keys = w0 := congrArg (fun z9 => z9.2.1) h9
      rw [← e9]
      have e9 : a_t_aboves = w1 := congrArg (fun z9 => z9.2.2) h9
      rw [← e9]
      exact k_lret hx hb hr hlocks hP hS rfl dX3_workOut_13
    have h := it_n h c1
    refine lv_iload_n hx hb dX3_workOut_6 rfl (lv_at hl 2 rfl) ?_
    refine lv_bipush (v := (16 : Int32)) hx hb dX3_workOut_7 (by decide) ?_
    refine lv_icmp_le (tgt := 14) hx hb dX3_workOut_9 (by decide) (fun c2 => ?_) (fun c2 => ?_)
    rotate_left
    · have h := it_n h c2
      refine lv_lconst (v := (0 : Int64)) hx hb dX3_workOut_12 (by decide) ?_
      have h9 := Option.some.inj h
      have e9 : (0 : Int64) = r0 := congrArg (fun z9 => z9.1) h9
      rw [← e9]
      have e9 : a_t_keys = w0 := congrArg (fun z9 => z9.2.1) h9
      rw [← e9]
      have e9 : a_t_aboves = w1 := congrArg (fun z9 => z9.2.2) h9
      rw [← e9]
      exact k_lret hx hb hr hlocks hP hS rfl dX3_workOut_13
    have h := it_p h c2
    refine lv_aload_n hx hb dX3_workOut_14 rfl (lv_at hl 0 rfl) ?_
    refine lv_lload_n hx hb dX3_workOut_15 rfl (lv_at hl 1 rfl) ?_
    obtain ⟨x3, hx3, h⟩ := bd_e h
    try dsimp only at h
    refine k_ViU (n := 1) (As := [.long p0]) (rest := []) hx hb hml hown hts (c_X3_slotOf l G cI cJ cD cH s.heap.size h_t h_t_keys h_t_aboves h_t_rounds t_round t_size t_sum t_gathered a_t_keys p0 x3 hx3) gX3_workOut_X3_slotOf rfl rfl rfl (by decide +kernel) ⟨by first | exact Nat.le_of_ble_eq_true rfl | (simp only [headSpec]; omega), by first | exact Nat.le_of_ble_eq_true rfl | (simp only [headSpec]; omega)⟩ hK hP hD hS hA [0, 1] (by decide) rfl (ci := 3) rfl rfl rfl rfl rfl hl.1 (Nat.le_of_ble_eq_true rfl) dX3_workOut_16 ⟨Nat.zero_le _, Nat.zero_le _⟩ (fun hp3 H locs hP hS => ?_)
    refine lv_istore (lv' := [(4, .int x3), (0, .ref h_t), (1, .long p0), (3, .int p1)]) hx hb dX3_workOut_19 hl (by decide) rfl (fun ls hl => ?_)
    refine lv_iload hx hb dX3_workOut_21 (lv_at hl 0 rfl) ?_
    refine lv_iconst (v := (-1 : Int32)) hx hb dX3_workOut_23 (by decide) ?_
    have hJ_X3_workOut_47 : ∀ (H : Heap) (locs : List Loc) (ls : Array Slot), va_P G vwCl [(h_t, .inr (3, [.ref h_t_keys, .ref h_t_aboves, .ref h_t_rounds, .int t_round, .int t_size, .int t_sum, .long t_gathered])), (h_t_keys, .inl (cJ, 1024, .inr (.inl a_t_keys))), (h_t_aboves, .inl (cJ, 1024, .inr (.inl a_t_aboves)))] H → va_D A [(h_t, .inr (3, [.ref h_t_keys, .ref h_t_aboves, .ref h_t_rounds, .int t_round, .int t_size, .int t_sum, .long t_gathered])), (h_t_keys, .inl (cJ, 1024, .inr (.inl a_t_keys))), (h_t_aboves, .inl (cJ, 1024, .inr (.inl a_t_aboves)))] → va_S A s.heap H locs → lv_has ls 11 [(0, .ref h_t), (1, .long p0), (3, .int p1)] → J_X3_workOut_47 (F_X3_workOut d) a_t_keys a_t_aboves p0 p1 = some (r0, w0, w1) → W p l e (headSpec wsX3_workOut ({ frames := (d + 1) + 2, cells := 0, slots := 0, locals := 30 * (d + 1) + 49 })).room s m ([.ref h_t, .long p0, .int p1] : List Value).toArray below meth c H locs 0 0 (MQ below (va_Ql (fun r (_ : Unit) => r = r0 ∧ True) (fun _ t => va_P G vwCl [(h_t, .inr (3, [.ref h_t_keys, .ref h_t_aboves, .ref h_t_rounds, .int t_round, .int t_size, .int t_sum, .long t_gathered])), (h_t_keys, .inl (cJ, 1024, .inr (.inl w0))), (h_t_aboves, .inl (cJ, 1024, .inr (.inl w1)))] t.heap) A) ([.ref h_t, .long p0, .int p1] : List Value).toArray s 0 0 A) (F0 m 47 ls []) := by
      intro  H locs ls hP hD hS hl h
      unfold J_X3_workOut_47 at h
      refine lv_lload_n hx hb dX3_workOut_47 rfl (lv_at hl 1 rfl) ?_
      obtain ⟨x4, hx4, h⟩ := bd_e h
      try dsimp only at h
      refine k_SiU (n := 1) (As := [.long p0]) (rest := []) hx hb hml hown hts (c_X3_ruleOf l G cI cJ cD cH H.size p0 x4 hx4) gX3_workOut_X3_ruleOf rfl rfl rfl (by decide +kernel) ⟨by first | exact Nat.le_of_ble_eq_true rfl | (simp only [headSpec]; omega), by first | exact Nat.le_of_ble_eq_true rfl | (simp only [headSpec]; omega)⟩ hK hP hD hS hA [] (by decide) rfl rfl rfl hl.1 (Nat.le_of_ble_eq_true rfl) dX3_workOut_48 ⟨Nat.zero_le _, Nat.zero_le _⟩ (fun hp4 H locs hP hS => ?_)
      refine lv_istore (lv' := [(5, .int x4), (0, .ref h_t), (1, .long p0), (3, .int p1)]) hx hb dX3_workOut_51 hl (by decide) rfl (fun ls hl => ?_)
      refine lv_lload_n hx hb dX3_workOut_53 rfl (lv_at hl 2 rfl) ?_
      obtain ⟨x5, hx5, h⟩ := bd_e h
      try dsimp only at h
      refine k_SlU (n := 1) (As := [.long p0]) (rest := []) hx hb hml hown hts (c_X3_baseOf l G cI cJ cD cH H.size p0 x5 hx5) gX3_workOut_X3_baseOf rfl rfl rfl (by decide +kernel) ⟨by first | exact Nat.le_of_ble_eq_true rfl | (simp only [headSpec]; omega), by first | exact Nat.le_of_ble_eq_true rfl | (simp only [headSpec]; omega)⟩ hK hP hD hS hA [] (by decide) rfl rfl rfl hl.1 (Nat.le_of_ble_eq_true rfl) dX3_workOut_54 ⟨Nat.zero_le _, Nat.zero_le _⟩ (fun hp5 H locs hP hS => ?_)
      refine lv_lstore (lv' := [(6, .long x5), (5, .int x4), (0, .ref h_t), (1, .long p0), (3, .int p1)]) hx hb dX3_workOut_57 hl (by decide) rfl (fun ls hl => ?_)
      refine lv_iconst (v := (1 : Int32)) hx hb dX3_workOut_59 (by decide) ?_
      refine lv_istore (lv' := [(8, .int (1 : Int32)), (6, .long x5), (5, .int x4), (0, .ref h_t), (1, .long p0), (3, .int p1)]) hx hb dX3_workOut_60 hl (by decide) rfl (fun ls hl => ?_)
      have hK_X3_workOut_62_115 : ∀  (vK62_115_0 : Nat → Int64) (vK62_115_1 : Nat → Int64) (vK62_115_2 : Int64) (H : Heap) (locs : List Loc) (ls : Array Slot), va_P G vwCl [(h_t, .inr (3, [.ref h_t_keys, .ref h_t_aboves, .ref h_t_rounds, .int t_round, .int t_size, .int t_sum, .long t_gathered])), (h_t_keys, .inl (cJ, 1024, .inr (.inl vK62_115_0))), (h_t_aboves, .inl (cJ, 1024, .inr (.inl vK62_115_1)))] H → va_D A [(h_t, .inr (3, [.ref h_t_keys, .ref h_t_aboves, .ref h_t_rounds, .int t_round, .int t_size, .int t_sum, .long t_gathered])), (h_t_keys, .inl (cJ, 1024, .inr (.inl vK62_115_0))), (h_t_aboves, .inl (cJ, 1024, .inr (.inl vK62_115_1)))] → va_S A s.heap H locs → lv_has ls 11 [(0, .ref h_t), (1, .long p0), (6, .long vK62_115_2)] → K_X3_workOut_62_115 p0 vK62_115_0 vK62_115_1 vK62_115_2 = some (r0, w0, w1) → W p l e (headSpec wsX3_workOut ({ frames := (d + 1) + 2, cells := 0, slots := 0, locals := 30 * (d + 1) + 49 })).room s m ([.ref h_t, .long p0, .int p1] : List Value).toArray below meth c H locs 0 0 (MQ below (va_Ql (fun r (_ : Unit) => r = r0 ∧ True) (fun _ t => va_P G vwCl [(h_t, .inr (3, [.ref h_t_keys, .ref h_t_aboves, .ref h_t_rounds, .int t_round, .int t_size, .int t_sum, .long t_gathered])), (h_t_keys, .inl (cJ, 1024, .inr (.inl w0))), (h_t_aboves, .inl (cJ, 1024, .inr (.inl w1)))] t.heap) A) ([.ref h_t, .long p0, .int p1] : List Value).toArray s 0 0 A) (F0 m 115 ls []) := by
        intro vK62_115_0 vK62_115_1 vK62_115_2 H locs ls hP hD hS hl h
        unfold K_X3_workOut_62_115 at h
        refine lv_aload_n hx hb dX3_workOut_115 rfl (lv_at hl 0 rfl) ?_
        refine lv_lload_n hx hb dX3_workOut_116 rfl (lv_at hl 1 rfl) ?_
        refine lv_lload hx hb dX3_workOut_117 (lv_at hl 2 rfl) ?_
        obtain ⟨x6, hx6, h⟩ := bd_e h
        try dsimp only at h
        refine k_VvM (n := 2) (As := [.long p0, .long vK62_115_2]) (rest := []) hx hb hml hown hts (c_X3_keep l G cI cJ cD cH H.size h_t h_t_keys h_t_aboves h_t_rounds t_round t_size t_sum t_gathered vK62_115_0 vK62_115_1 p0 vK62_115_2 (x6.1) (x6.2) hx6) gX3_workOut_X3_keep rfl rfl rfl (by decide +kernel) ⟨by first | exact Nat.le_of_ble_eq_true rfl | (simp only [headSpec]; omega), by first | exact Nat.le_of_ble_eq_true rfl | (simp only [headSpec]; omega)⟩ hK hP hD hS hA [0, 1, 2] (by decide) rfl rfl (ci := 3) rfl rfl rfl rfl rfl hl.1 (Nat.le_of_ble_eq_true rfl) dX3_workOut_119 ⟨Nat.zero_le _, Nat.zero_le _⟩ [(h_t, .inr (3, [.ref h_t_keys, .ref h_t_aboves, .ref h_t_rounds, .int t_round, .int t_size, .int t_sum, .long t_gathered])), (h_t_keys, .inl (cJ, 1024, .inr (.inl (x6.1)))), (h_t_aboves, .inl (cJ, 1024, .inr (.inl (x6.2))))] [1, 2, 3] 3 (by decide +kernel) rfl rfl rfl (fun hp6 H locs hP hD hS => ?_)
        refine lv_lload hx hb dX3_workOut_122 (lv_at hl 2 rfl) ?_
        have h9 := Option.some.inj h
        have e9 : vK62_115_2 = r0 := congrArg (fun z9 => z9.1) h9
        rw [← e9]
        have e9 : (x6.1) = w0 := congrArg (fun z9 => z9.2.1) h9
        rw [← e9]
        have e9 : (x6.2) = w1 := congrArg (fun z9 => z9.2.2) h9
        rw [← e9]
        exact k_lret hx hb hr hlocks hP hS rfl dX3_workOut_124
      have hL62 : ∀ (n62 : Nat) (vL62_0 : Nat → Int64) (vL62_1 : Nat → Int64) (vL62_2 : Int64) (vL62_3 : Int32) (H : Heap) (locs : List Loc) (ls : Array Slot), va_P G vwCl [(h_t, .inr (3, [.ref h_t_keys, .ref h_t_aboves, .ref h_t_rounds, .int t_round, .int t_size, .int t_sum, .long t_gathered])), (h_t_keys, .inl (cJ, 1024, .inr (.inl vL62_0))), (h_t_aboves, .inl (cJ, 1024, .inr (.inl vL62_1)))] H → va_D A [(h_t, .inr (3, [.ref h_t_keys, .ref h_t_aboves, .ref h_t_rounds, .int t_round, .int t_size, .int t_sum, .long t_gathered])), (h_t_keys, .inl (cJ, 1024, .inr (.inl vL62_0))), (h_t_aboves, .inl (cJ, 1024, .inr (.inl vL62_1)))] → va_S A s.heap H locs → lv_has ls 11 [(0, .ref h_t), (1, .long p0), (3, .int p1), (5, .int x4), (6, .long vL62_2), (8, .int vL62_3)] → wq4 (B_X3_workOut_62 (F_X3_workOut d) p0 p1 x4 (K_X3_workOut_62_115 p0)) n62 vL62_0 vL62_1 vL62_2 vL62_3 = some (r0, w0, w1) → W p l e (headSpec wsX3_workOut ({ frames := (d + 1) + 2, cells := 0, slots := 0, locals := 30 * (d + 1) + 49 })).room s m ([.ref h_t, .long p0, .int p1] : List Value).toArray below meth c H locs 0 0 (MQ below (va_Ql (fun r (_ : Unit) => r = r0 ∧ True) (fun _ t => va_P G vwCl [(h_t, .inr (3, [.ref h_t_keys, .ref h_t_aboves, .ref h_t_rounds, .int t_round, .int t_size, .int t_sum, .long t_gathered])), (h_t_keys, .inl (cJ, 1024, .inr (.inl w0))), (h_t_aboves, .inl (cJ, 1024, .inr (.inl w1)))] t.heap) A) ([.ref h_t, .long p0, .int p1] : List Value).toArray s 0 0 A) (F0 m 62 ls []) := by
        intro n62
        induction n62 with
        | zero => intro vL62_0 vL62_1 vL62_2 vL62_3 H locs ls hP hD hS hl h; exact wq4_0 h
        | succ n62 ih62 =>
          intro vL62_0 vL62_1 vL62_2 vL62_3 H locs ls hP hD hS hl h
          have h := wq4_s h
          unfold B_X3_workOut_62 at h
          refine lv_iload hx hb dX3_workOut_62 (lv_at hl 5 rfl) ?_
          refine lv_bipush (v := (14 : Int32)) hx hb dX3_workOut_64 (by decide) ?_
          refine lv_icmp_gt (tgt := 115) hx hb dX3_workOut_66 (by decide) (fun c7 => ?_) (fun c7 => ?_)
          · have h := it_p h c7
            exact hK_X3_workOut_62_115 vL62_0 vL62_1 vL62_2 _ _ _ hP hD hS (lv_sub hl [0, 1, 4] rfl) h
          have h := it_n h c7
          refine lv_lload_n hx hb dX3_workOut_69 rfl (lv_at hl 1 rfl) ?_
          refine lv_iload hx hb dX3_workOut_70 (lv_at hl 3 rfl) ?_
          refine lv_iload hx hb dX3_workOut_72 (lv_at hl 5 rfl) ?_
          obtain ⟨x8, hx8, h⟩ := bd_e h
          try dsimp only at h
          refine k_SlU (n := 3) (As := [.long p0, .int x4, .int vL62_3]) (rest := []) hx hb hml hown hts (c_X3_nextKey l G cI cJ cD cH H.size p0 x4 vL62_3 x8 hx8) gX3_workOut_X3_nextKey rfl rfl rfl (by decide +kernel) ⟨by first | exact Nat.le_of_ble_eq_true rfl | (simp only [headSpec]; omega), by first | exact Nat.le_of_ble_eq_true rfl | (simp only [headSpec]; omega)⟩ hK hP hD hS hA [] (by decide) rfl rfl rfl hl.1 (Nat.le_of_ble_eq_true rfl) dX3_workOut_74 ⟨Nat.zero_le _, Nat.zero_le _⟩ (fun hp8 H locs hP hS => ?_)
          refine lv_lstore (lv' := [(9, .long x8), (0, .ref h_t), (1, .long p0), (3, .int p1), (5, .int x4), (6, .long vL62_2), (8, .int vL62_3)]) hx hb dX3_workOut_77 hl (by decide) rfl (fun ls hl => ?_)
          refine lv_lload hx hb dX3_workOut_79 (lv_at hl 0 rfl) ?_
          refine lv_lconst (v := (0 : Int64)) hx hb dX3_workOut_81 (by decide) ?_
          refine W.lcmp hx hb dX3_workOut_82 ?_
          refine lv_if_eq (tgt := 109) hx hb dX3_workOut_83 (by decide) (fun c9 => ?_) (fun c9 => ?_)
          · have h := it_p h c9
            refine lv_iinc (v := (vL62_3 + (1 : Int32))) (lv' := [(8, .int (vL62_3 + (1 : Int32))), (9, .long x8), (0, .ref h_t), (1, .long p0), (3, .int p1), (5, .int x4), (6, .long vL62_2)]) hx hb dX3_workOut_109 hl (k := 6) rfl (by first | rfl | decide) (by decide) rfl (fun ls hl => ?_)
            refine lv_goto (tgt := 62) hx hb dX3_workOut_112 (by decide) ?_
            exact ih62 vL62_0 vL62_1 vL62_2 (vL62_3 + (1 : Int32)) _ _ _ hP hD hS (lv_sub hl [2, 3, 4, 5, 6, 0] rfl) h
          have h := it_n h c9
          refine lv_lload hx hb dX3_workOut_86 (lv_at hl 5 rfl) ?_
          refine lv_lload_n hx hb dX3_workOut_88 rfl (lv_at hl 2 rfl) ?_
          refine lv_iload hx hb dX3_workOut_89 (lv_at hl 4 rfl) ?_
          refine lv_iload hx hb dX3_workOut_91 (lv_at hl 6 rfl) ?_
          obtain ⟨x10, hx10, h⟩ := bd_e h
          try dsimp only at h
          refine k_SlU (n := 3) (As := [.long p0, .int x4, .int vL62_3]) (rest := [.long vL62_2]) hx hb hml hown hts (c_X3_weightOf l G cI cJ cD cH H.size p0 x4 vL62_3 x10 hx10) gX3_workOut_X3_weightOf rfl rfl rfl (by decide +kernel) ⟨by first | exact Nat.le_of_ble_eq_true rfl | (simp only [headSpec]; omega), by first | exact Nat.le_of_ble_eq_true rfl | (simp only [headSpec]; omega)⟩ hK hP hD hS hA [] (by decide) rfl rfl rfl hl.1 (Nat.le_of_ble_eq_true rfl) dX3_workOut_93 ⟨Nat.zero_le _, Nat.zero_le _⟩ (fun hp10 H locs hP hS => ?_)
          refine lv_aload_n hx hb dX3_workOut_96 rfl (lv_at hl 1 rfl) ?_
          refine lv_lload hx hb dX3_workOut_97 (lv_at hl 0 rfl) ?_
          refine lv_iload_n hx hb dX3_workOut_99 rfl (lv_at hl 3 rfl) ?_
          refine lv_iconst (v := (1 : Int32)) hx hb dX3_workOut_100 (by decide) ?_
          refine lv_iadd hx hb dX3_workOut_101 ?_
          obtain ⟨x11, hx11, h⟩ := bd_e h
          try dsimp only at h
          refine k_VlM (n := 2) (As := [.long x8, .int (p1 + (1 : Int32))]) (rest := [.long x10, .long vL62_2]) hx hb hml hown hts (ihd G cI cJ cD cH H.size h_t h_t_keys h_t_aboves h_t_rounds t_round t_size t_sum t_gathered vL62_0 vL62_1 x8 (p1 + (1 : Int32)) (x11.1) (x11.2.1) (x11.2.2) hx11) gX3_workOut_X3_workOut rfl rfl rfl (by decide +kernel) ⟨by first | exact Nat.le_of_ble_eq_true rfl | (simp only [headSpec]; omega), by first | exact Nat.le_of_ble_eq_true rfl | (simp only [headSpec]; omega)⟩ hK hP hD hS hA [0, 1, 2] (by decide) rfl rfl (ci := 3) rfl rfl rfl rfl rfl hl.1 (Nat.le_of_ble_eq_true rfl) dX3_workOut_102 ⟨Nat.zero_le _, Nat.zero_le _⟩ [(h_t, .inr (3, [.ref h_t_keys, .ref h_t_aboves, .ref h_t_rounds, .int t_round, .int t_size, .int t_sum, .long t_gathered])), (h_t_keys, .inl (cJ, 1024, .inr (.inl (x11.2.1)))), (h_t_aboves, .inl (cJ, 1024, .inr (.inl (x11.2.2))))] [1, 2, 3] 3 (by decide +kernel) rfl rfl rfl (fun hp11 H locs hP hD hS => ?_)
          refine lv_lmul hx hb dX3_workOut_105 ?_
          refine lv_ladd hx hb dX3_workOut_106 ?_
          refine lv_lstore (lv' := [(6, .long (vL62_2 + (x10 * (x11.1)))), (9, .long x8), (0, .ref h_t), (1, .long p0), (3, .int p1), (5, .int x4), (8, .int vL62_3)]) hx hb dX3_workOut_107 hl (by decide) rfl (fun ls hl => ?_)
          refine lv_iinc (v := (vL62_3 + (1 : Int32))) (lv' := [(8, .int (vL62_3 + (1 : Int32))), (6, .long (vL62_2 + (x10 * (x11.1)))), (9, .long x8), (0, .ref h_t), (1, .long p0), (3, .int p1), (5, .int x4)]) hx hb dX3_workOut_109 hl (k := 6) rfl (by first | rfl | decide) (by decide) rfl (fun ls hl => ?_)
          refine lv_goto (tgt := 62) hx hb dX3_workOut_112 (by decide) ?_
          exact ih62 (x11.2.1) (x11.2.2) (vL62_2 + (x10 * (x11.1))) (vL62_3 + (1 : Int32)) _ _ _ hP hD hS (lv_sub hl [3, 4, 5, 6, 1, 0] rfl) h
      exact hL62 FU a_t_keys a_t_aboves x5 (1 : Int32) _ _ _ hP hD hS (lv_sub hl [3, 4, 5, 2, 1, 0] rfl) h
    refine lv_icmp_eq (tgt := 47) hx hb dX3_workOut_24 (by decide) (fun c12 => ?_) (fun c12 => ?_)
    · have h := it_p h c12
      exact hJ_X3_workOut_47  _ _ _ hP hD hS (lv_sub hl [1, 2, 3] rfl) h
    have h := it_n h c12
    refine lv_aload_n hx hb dX3_workOut_27 rfl (lv_at hl 1 rfl) ?_
    refine va_get (D := G) (ci := 3) (v := .ref h_t_keys) (C := RX3) (T := TX3) (N := 7) hx hb hts hinX3 hown hK hP 0 rfl rfl 0 (by decide) (hta _ mw_114) (fun _ h9 => h9) rfl dX3_workOut_28 ?_
    refine lv_iload hx hb dX3_workOut_31 (lv_at hl 0 rfl) ?_
    obtain ⟨hn13, h⟩ := ck_e h
    refine va_lald hx hb hK hP 1 1 rfl rfl hn13 dX3_workOut_33 ?_
    refine lv_lload_n hx hb dX3_workOut_34 rfl (lv_at hl 2 rfl) ?_
    refine W.lcmp hx hb dX3_workOut_35 ?_
    refine lv_if_ne (tgt := 47) hx hb dX3_workOut_36 (by decide) (fun c14 => ?_) (fun c14 => ?_)
    · have h := it_n h c14
      exact hJ_X3_workOut_47  _ _ _ hP hD hS (lv_sub hl [1, 2, 3] rfl) h
    have h := it_p h c14
    refine lv_aload_n hx hb dX3_workOut_39 rfl (lv_at hl 1 rfl) ?_
    refine va_get (D := G) (ci := 3) (v := .ref h_t_aboves) (C := RX3) (T := TX3) (N := 7) hx hb hts hinX3 hown hK hP 0 rfl rfl 1 (by decide) (hta _ mw_115) (fun _ h9 => h9) rfl dX3_workOut_40 ?_
    refine lv_iload hx hb dX3_workOut_43 (lv_at hl 0 rfl) ?_
    obtain ⟨hn15, h⟩ := ck_e h
    refine va_lald hx hb hK hP 2 1 rfl rfl hn15 dX3_workOut_45 ?_
    have h9 := Option.some.inj h
    have e9 : (a_t_aboves x3.toNatClampNeg) = r0 := congrArg (fun z9 => z9.1) h9
    rw [← e9]
    have e9 : a_t_keys = w0 := congrArg (fun z9 => z9.2.1) h9
    rw [← e9]
    have e9 : a_t_aboves = w1 := congrArg (fun z9 => z9.2.2) h9
    rw [← e9]
    exact k_lret hx hb hr hlocks hP hS rfl dX3_workOut_46

/-! X3_aboveOf -/
set_option maxHeartbeats 4000000 in
set_option maxRecDepth 100000 in
theorem c_X3_aboveOf (l : Launch) (G : va_G) (cI cJ cD cH : ClassId) (sz : Nat) (h_t : Nat) (h_t_keys : Nat) (h_t_aboves : Nat) (h_t_rounds : Nat) (t_round : Int32) (t_size : Int32) (t_sum : Int32) (t_gathered : Int64) (a_t_keys : Nat → Int64) (a_t_aboves : Nat → Int64) (p0 : Int64) (r0 : Int64) (w0 : Nat → Int64) (w1 : Nat → Int64) (hF : F_X3_aboveOf a_t_keys a_t_aboves p0 = some (r0, w0, w1)) : Met l yX3_aboveOf wsX3_aboveOf ({ frames := 23, cells := 0, slots := 0, locals := 679 }) (k_pre G (k_T cI cJ cD cH) [(h_t, .inr (3, [.ref h_t_keys, .ref h_t_aboves, .ref h_t_rounds, .int t_round, .int t_size, .int t_sum, .long t_gathered])), (h_t_keys, .inl (cJ, 1024, .inr (.inl a_t_keys))), (h_t_aboves, .inl (cJ, 1024, .inr (.inl a_t_aboves)))] sz [.ref h_t, .long p0]) (va_Ql (fun r (_ : Unit) => r = r0 ∧ True) (fun _ t => va_P G vwCl [(h_t, .inr (3, [.ref h_t_keys, .ref h_t_aboves, .ref h_t_rounds, .int t_round, .int t_size, .int t_sum, .long t_gathered])), (h_t_keys, .inl (cJ, 1024, .inr (.inl w0))), (h_t_aboves, .inl (cJ, 1024, .inr (.inl w1)))] t.heap) (va_A [(h_t, .inr (3, [.ref h_t_keys, .ref h_t_aboves, .ref h_t_rounds, .int t_round, .int t_size, .int t_sum, .long t_gathered])), (h_t_keys, .inl (cJ, 1024, .inr (.inl a_t_keys))), (h_t_aboves, .inl (cJ, 1024, .inr (.inl a_t_aboves)))] sz)) 0 0 (va_A [(h_t, .inr (3, [.ref h_t_keys, .ref h_t_aboves, .ref h_t_rounds, .int t_round, .int t_size, .int t_sum, .long t_gathered])), (h_t_keys, .inl (cJ, 1024, .inr (.inl a_t_keys))), (h_t_aboves, .inl (cJ, 1024, .inr (.inl a_t_aboves)))] sz) := by
  refine Met.ofW (cc := cX3_aboveOf) (maxL := 3) (ret := (some .long)) (by decide) rfl ?_
  intro p e s m args below meth c s₁ B hml hv
  obtain ⟨rfl, hsz, hP, hK, hD0⟩ := hv
  have hx := B.exec
  have hb := B.bytes
  have hr := B.returns
  have hts := atoms_spec (ws := wsX3_aboveOf) B.pre
  have hta : ∀ w ∈ wA, w.before ([.ref h_t, .long p0] : List Value).toArray s = true := hta_of hts
  have hown : s.vm.findClass RX3 = some m.cls := findClass_of_methodNamed B.named
  have hlocks := B.notSynchronized
  subst hsz
  have hD := hD0.self (sz := s.heap.size)
  generalize hAe : va_A [(h_t, .inr (3, [.ref h_t_keys, .ref h_t_aboves, .ref h_t_rounds, .int t_round, .int t_size, .int t_sum, .long t_gathered])), (h_t_keys, .inl (cJ, 1024, .inr (.inl a_t_keys))), (h_t_aboves, .inl (cJ, 1024, .inr (.inl a_t_aboves)))] s.heap.size = A at hD ⊢
  have hA : ∀ q : Nat, s.heap.size ≤ q → A q := fun q h => by rw [← hAe]; exact Or.inr h
  have hS : va_S A s.heap s.heap [] := va_S.rf
  have hl := lv_entry ([.ref h_t, .long p0]) (n := 3) (Nat.le_of_ble_eq_true rfl)
  rw [lg_entry_eq]
  generalize (lg_sl ([.ref h_t, .long p0]) ++ List.replicate (3 - (lg_sl ([.ref h_t, .long p0])).length) Slot.unset).toArray = ls at hl ⊢
  have hl : lv_has ls 3 [(0, .ref h_t), (1, .long p0)] := hl
  have h := hF
  unfold F_X3_aboveOf at h
  refine lv_aload_n hx hb dX3_aboveOf_0 rfl (lv_at hl 0 rfl) ?_
  refine lv_lload_n hx hb dX3_aboveOf_1 rfl (lv_at hl 1 rfl) ?_
  refine lv_iconst (v := (0 : Int32)) hx hb dX3_aboveOf_2 (by decide) ?_
  obtain ⟨x1, hx1, h⟩ := bd_e h
  try dsimp only at h
  refine k_VlM (n := 2) (As := [.long p0, .int (0 : Int32)]) (rest := []) hx hb hml hown hts (c_X3_workOut l 20 G cI cJ cD cH s.heap.size h_t h_t_keys h_t_aboves h_t_rounds t_round t_size t_sum t_gathered a_t_keys a_t_aboves p0 (0 : Int32) (x1.1) (x1.2.1) (x1.2.2) hx1) gX3_aboveOf_X3_workOut rfl rfl rfl (by decide +kernel) ⟨by first | exact Nat.le_of_ble_eq_true rfl | (simp only [headSpec]; omega), by first | exact Nat.le_of_ble_eq_true rfl | (simp only [headSpec]; omega)⟩ hK hP hD hS hA [0, 1, 2] (by decide) rfl rfl (ci := 3) rfl rfl rfl rfl rfl hl.1 (Nat.le_of_ble_eq_true rfl) dX3_aboveOf_3 ⟨Nat.zero_le _, Nat.zero_le _⟩ [(h_t, .inr (3, [.ref h_t_keys, .ref h_t_aboves, .ref h_t_rounds, .int t_round, .int t_size, .int t_sum, .long t_gathered])), (h_t_keys, .inl (cJ, 1024, .inr (.inl (x1.2.1)))), (h_t_aboves, .inl (cJ, 1024, .inr (.inl (x1.2.2))))] [1, 2, 3] 3 (by decide +kernel) rfl rfl rfl (fun hp1 H locs hP hD hS => ?_)
  have h9 := Option.some.inj h
  have e9 : (x1.1) = r0 := congrArg (fun z9 => z9.1) h9
  rw [← e9]
  have e9 : (x1.2.1) = w0 := congrArg (fun z9 => z9.2.1) h9
  rw [← e9]
  have e9 : (x1.2.2) = w1 := congrArg (fun z9 => z9.2.2) h9
  rw [← e9]
  exact k_lret hx hb hr hlocks hP hS rfl dX3_aboveOf_6

/-! X3_meet -/
set_option maxHeartbeats 4000000 in
set_option maxRecDepth 100000 in
theorem c_X3_meet (l : Launch) : ∀ (d : Nat) (G : va_G) (cI cJ cD cH : ClassId) (sz : Nat) (h_t : Nat) (h_t_keys : Nat) (h_t_rounds : Nat) (h_t_aboves : Nat) (t_round : Int32) (t_size : Int32) (t_sum : Int32) (t_gathered : Int64) (a_t_keys : Nat → Int64) (a_t_rounds : Nat → Int32) (p0 : Int64) (p1 : Int32) (r0 : Int32) (w0 : Nat → Int32) (hF : F_X3_meet d t_round a_t_keys a_t_rounds p0 p1 = some (r0, w0)), Met l yX3_meet wsX3_meet ({ frames := d + 2, cells := 0, slots := 0, locals := 27 * d + 47 }) (k_pre G (k_T cI cJ cD cH) [(h_t, .inr (3, [.ref h_t_keys, .ref h_t_aboves, .ref h_t_rounds, .int t_round, .int t_size, .int t_sum, .long t_gathered])), (h_t_keys, .inl (cJ, 1024, .inr (.inl a_t_keys))), (h_t_rounds, .inl (cI, 1024, .inl a_t_rounds))] sz [.ref h_t, .long p0, .int p1]) (va_Qi (fun r (_ : Unit) => r = r0 ∧ True) (fun _ t => va_P G vwCl [(h_t, .inr (3, [.ref h_t_keys, .ref h_t_aboves, .ref h_t_rounds, .int t_round, .int t_size, .int t_sum, .long t_gathered])), (h_t_keys, .inl (cJ, 1024, .inr (.inl a_t_keys))), (h_t_rounds, .inl (cI, 1024, .inl w0))] t.heap) (va_A [(h_t, .inr (3, [.ref h_t_keys, .ref h_t_aboves, .ref h_t_rounds, .int t_round, .int t_size, .int t_sum, .long t_gathered])), (h_t_keys, .inl (cJ, 1024, .inr (.inl a_t_keys))), (h_t_rounds, .inl (cI, 1024, .inl a_t_rounds))] sz)) 0 0 (va_A [(h_t, .inr (3, [.ref h_t_keys, .ref h_t_aboves, .ref h_t_rounds, .int t_round, .int t_size, .int t_sum, .long t_gathered])), (h_t_keys, .inl (cJ, 1024, .inr (.inl a_t_keys))), (h_t_rounds, .inl (cI, 1024, .inl a_t_rounds))] sz) := by
  intro d
  induction d with
  | zero => intro G cI cJ cD cH sz h_t h_t_keys h_t_rounds h_t_aboves t_round t_size t_sum t_gathered a_t_keys a_t_rounds p0 p1 r0 w0 hF; cases hF
  | succ d ihd =>
    intro G cI cJ cD cH sz h_t h_t_keys h_t_rounds h_t_aboves t_round t_size t_sum t_gathered a_t_keys a_t_rounds p0 p1 r0 w0 hF
    refine Met.ofW (cc := cX3_meet) (maxL := 8) (ret := (some .int)) (by decide) rfl ?_
    intro p e s m args below meth c s₁ B hml hv
    obtain ⟨rfl, hsz, hP, hK, hD0⟩ := hv
    have hx := B.exec
    have hb := B.bytes
    have hr := B.returns
    have hts := atoms_spec (ws := wsX3_meet) B.pre
    have hta : ∀ w ∈ wA, w.before ([.ref h_t, .long p0, .int p1] : List Value).toArray s = true := hta_of hts
    have hown : s.vm.findClass RX3 = some m.cls := findClass_of_methodNamed B.named
    have hlocks := B.notSynchronized
    subst hsz
    have hD := hD0.self (sz := s.heap.size)
    generalize hAe : va_A [(h_t, .inr (3, [.ref h_t_keys, .ref h_t_aboves, .ref h_t_rounds, .int t_round, .int t_size, .int t_sum, .long t_gathered])), (h_t_keys, .inl (cJ, 1024, .inr (.inl a_t_keys))), (h_t_rounds, .inl (cI, 1024, .inl a_t_rounds))] s.heap.size = A at hD ⊢
    have hA : ∀ q : Nat, s.heap.size ≤ q → A q := fun q h => by rw [← hAe]; exact Or.inr h
    have hS : va_S A s.heap s.heap [] := va_S.rf
    have hl := lv_entry ([.ref h_t, .long p0, .int p1]) (n := 8) (Nat.le_of_ble_eq_true rfl)
    rw [lg_entry_eq]
    generalize (lg_sl ([.ref h_t, .long p0, .int p1]) ++ List.replicate (8 - (lg_sl ([.ref h_t, .long p0, .int p1])).length) Slot.unset).toArray = ls at hl ⊢
    have hl : lv_has ls 8 [(0, .ref h_t), (1, .long p0), (3, .int p1)] := hl
    have hinX3 : ∀ w ∈ wsX30, w ∈ wsX3_meet := hin_of in_X3
    have h : G_X3_meet (F_X3_meet d) t_round a_t_keys a_t_rounds p0 p1 = some (r0, w0) := hF
    unfold G_X3_meet at h
    refine lv_lload_n hx hb dX3_meet_0 rfl (lv_at hl 1 rfl) ?_
    refine lv_lconst (v := (0 : Int64)) hx hb dX3_meet_1 (by decide) ?_
    refine W.lcmp hx hb dX3_meet_2 ?_
    refine lv_if_eq (tgt := 12) hx hb dX3_meet_3 (by decide) (fun c1 => ?_) (fun c1 => ?_)
    · have h := it_p h c1
      refine lv_iconst (v := (0 : Int32)) hx hb dX3_meet_12 (by decide) ?_
      have h9 := Option.some.inj h
      have e9 : (0 : Int32) = r0 := congrArg (fun z9 => z9.1) h9
      rw [← e9]
      have e9 : a_t_rounds = w0 := congrArg (fun z9 => z9.2) h9
      rw [← e9]
      exact k_iret hx hb hr hlocks hP hS rfl dX3_meet_13
    have h := it_n h c1
    refine lv_iload_n hx hb dX3_meet_6 rfl (lv_at hl 2 rfl) ?_
    refine lv_bipush (v := (16 : Int32)) hx hb dX3_meet_7 (by decide) ?_
    refine lv_icmp_le (tgt := 14) hx hb dX3_meet_9 (by decide) (fun c2 => ?_) (fun c2 => ?_)
    rotate_left
    · have h := it_n h c2
      refine lv_iconst (v := (0 : Int32)) hx hb dX3_meet_12 (by decide) ?_
      have h9 := Option.some.inj h
      have e9 : (0 : Int32) = r0 := congrArg (fun z9 => z9.1) h9
      rw [← e9]
      have e9 : a_t_rounds = w0 := congrArg (fun z9 => z9.2) h9
      rw [← e9]
      exact k_iret hx hb hr hlocks hP hS rfl dX3_meet_13
    have h := it_p h c2
    refine lv_aload_n hx hb dX3_meet_14 rfl (lv_at hl 0 rfl) ?_
    refine lv_lload_n hx hb dX3_meet_15 rfl (lv_at hl 1 rfl) ?_
    obtain ⟨x3, hx3, h⟩ := bd_e h
    try dsimp only at h
    refine k_ViU (n := 1) (As := [.long p0]) (rest := []) hx hb hml hown hts (c_X3_slotOf l G cI cJ cD cH s.heap.size h_t h_t_keys h_t_aboves h_t_rounds t_round t_size t_sum t_gathered a_t_keys p0 x3 hx3) gX3_meet_X3_slotOf rfl rfl rfl (by decide +kernel) ⟨by first | exact Nat.le_of_ble_eq_true rfl | (simp only [headSpec]; omega), by first | exact Nat.le_of_ble_eq_true rfl | (simp only [headSpec]; omega)⟩ hK hP hD hS hA [0, 1] (by decide) rfl (ci := 3) rfl rfl rfl rfl rfl hl.1 (Nat.le_of_ble_eq_true rfl) dX3_meet_16 ⟨Nat.zero_le _, Nat.zero_le _⟩ (fun hp3 H locs hP hS => ?_)
    refine lv_istore (lv' := [(4, .int x3), (0, .ref h_t), (1, .long p0), (3, .int p1)]) hx hb dX3_meet_19 hl (by decide) rfl (fun ls hl => ?_)
    refine lv_iload hx hb dX3_meet_21 (lv_at hl 0 rfl) ?_
    refine lv_iconst (v := (-1 : Int32)) hx hb dX3_meet_23 (by decide) ?_
    refine lv_icmp_eq (tgt := 53) hx hb dX3_meet_24 (by decide) (fun c4 => ?_) (fun c4 => ?_)
    · have h := it_p h c4
      refine lv_iconst (v := (0 : Int32)) hx hb dX3_meet_53 (by decide) ?_
      have h9 := Option.some.inj h
      have e9 : (0 : Int32) = r0 := congrArg (fun z9 => z9.1) h9
      rw [← e9]
      have e9 : a_t_rounds = w0 := congrArg (fun z9 => z9.2) h9
      rw [← e9]
      exact k_iret hx hb hr hlocks hP hS rfl dX3_meet_54
    have h := it_n h c4
    refine lv_aload_n hx hb dX3_meet_27 rfl (lv_at hl 1 rfl) ?_
    refine va_get (D := G) (ci := 3) (v := .ref h_t_keys) (C := RX3) (T := TX3) (N := 7) hx hb hts hinX3 hown hK hP 0 rfl rfl 0 (by decide) (hta _ mw_114) (fun _ h9 => h9) rfl dX3_meet_28 ?_
    refine lv_iload hx hb dX3_meet_31 (lv_at hl 0 rfl) ?_
    obtain ⟨hn5, h⟩ := ck_e h
    refine va_lald hx hb hK hP 1 1 rfl rfl hn5 dX3_meet_33 ?_
    refine lv_lload_n hx hb dX3_meet_34 rfl (lv_at hl 2 rfl) ?_
    refine W.lcmp hx hb dX3_meet_35 ?_
    refine lv_if_ne (tgt := 53) hx hb dX3_meet_36 (by decide) (fun c6 => ?_) (fun c6 => ?_)
    · have h := it_n h c6
      refine lv_iconst (v := (0 : Int32)) hx hb dX3_meet_53 (by decide) ?_
      have h9 := Option.some.inj h
      have e9 : (0 : Int32) = r0 := congrArg (fun z9 => z9.1) h9
      rw [← e9]
      have e9 : a_t_rounds = w0 := congrArg (fun z9 => z9.2) h9
      rw [← e9]
      exact k_iret hx hb hr hlocks hP hS rfl dX3_meet_54
    have h := it_p h c6
    refine lv_aload_n hx hb dX3_meet_39 rfl (lv_at hl 1 rfl) ?_
    refine va_get (D := G) (ci := 3) (v := .ref h_t_rounds) (C := RX3) (T := TX3) (N := 7) hx hb hts hinX3 hown hK hP 0 rfl rfl 2 (by decide) (hta _ mw_116) (fun _ h9 => h9) rfl dX3_meet_40 ?_
    refine lv_iload hx hb dX3_meet_43 (lv_at hl 0 rfl) ?_
    obtain ⟨hn7, h⟩ := ck_e h
    refine va_iald hx hb hK hP 2 0 rfl rfl hn7 dX3_meet_45 ?_
    refine lv_aload_n hx hb dX3_meet_46 rfl (lv_at hl 1 rfl) ?_
    refine va_get (D := G) (ci := 3) (v := .int t_round) (C := RX3) (T := TX3) (N := 7) hx hb hts hinX3 hown hK hP 0 rfl rfl 3 (by decide) (hta _ mw_167) (fun _ h9 => h9) rfl dX3_meet_47 ?_
    refine lv_icmp_ne (tgt := 55) hx hb dX3_meet_50 (by decide) (fun c8 => ?_) (fun c8 => ?_)
    rotate_left
    · have h := it_p h c8
      refine lv_iconst (v := (0 : Int32)) hx hb dX3_meet_53 (by decide) ?_
      have h9 := Option.some.inj h
      have e9 : (0 : Int32) = r0 := congrArg (fun z9 => z9.1) h9
      rw [← e9]
      have e9 : a_t_rounds = w0 := congrArg (fun z9 => z9.2) h9
      rw [← e9]
      exact k_iret hx hb hr hlocks hP hS rfl dX3_meet_54
    have h := it_n h c8
    refine lv_aload_n hx hb dX3_meet_55 rfl (lv_at hl 1 rfl) ?_
    refine va_get (D := G) (ci := 3) (v := .ref h_t_rounds) (C := RX3) (T := TX3) (N := 7) hx hb hts hinX3 hown hK hP 0 rfl rfl 2 (by decide) (hta _ mw_116) (fun _ h9 => h9) rfl dX3_meet_56 ?_
    refine lv_iload hx hb dX3_meet_59 (lv_at hl 0 rfl) ?_
    refine lv_aload_n hx hb dX3_meet_61 rfl (lv_at hl 1 rfl) ?_
    refine va_get (D := G) (ci := 3) (v := .int t_round) (C := RX3) (T := TX3) (N := 7) hx hb hts hinX3 hown hK hP 0 rfl rfl 3 (by decide) (hta _ mw_167) (fun _ h9 => h9) rfl dX3_meet_62 ?_
    obtain ⟨hn9, h⟩ := ck_e h
    refine va_iast hx hb hK hP hD hS 2 0 rfl rfl hn9 dX3_meet_65 (fun H locs hP hD hS => ?_)
    have hP : va_P G vwCl [(h_t, .inr (3, [.ref h_t_keys, .ref h_t_aboves, .ref h_t_rounds, .int t_round, .int t_size, .int t_sum, .long t_gathered])), (h_t_keys, .inl (cJ, 1024, .inr (.inl a_t_keys))), (h_t_rounds, .inl (cI, 1024, .inl (upd a_t_rounds x3.toNatClampNeg t_round)))] H := hP
    have hD : va_D A [(h_t, .inr (3, [.ref h_t_keys, .ref h_t_aboves, .ref h_t_rounds, .int t_round, .int t_size, .int t_sum, .long t_gathered])), (h_t_keys, .inl (cJ, 1024, .inr (.inl a_t_keys))), (h_t_rounds, .inl (cI, 1024, .inl (upd a_t_rounds x3.toNatClampNeg t_round)))] := hD
    refine lv_lload_n hx hb dX3_meet_66 rfl (lv_at hl 2 rfl) ?_
    obtain ⟨x10, hx10, h⟩ := bd_e h
    try dsimp only at h
    refine k_SiU (n := 1) (As := [.long p0]) (rest := []) hx hb hml hown hts (c_X3_ruleOf l G cI cJ cD cH H.size p0 x10 hx10) gX3_meet_X3_ruleOf rfl rfl rfl (by decide +kernel) ⟨by first | exact Nat.le_of_ble_eq_true rfl | (simp only [headSpec]; omega), by first | exact Nat.le_of_ble_eq_true rfl | (simp only [headSpec]; omega)⟩ hK hP hD hS hA [] (by decide) rfl rfl rfl hl.1 (Nat.le_of_ble_eq_true rfl) dX3_meet_67 ⟨Nat.zero_le _, Nat.zero_le _⟩ (fun hp10 H locs hP hS => ?_)
    refine lv_istore (lv' := [(5, .int x10), (4, .int x3), (0, .ref h_t), (1, .long p0), (3, .int p1)]) hx hb dX3_meet_70 hl (by decide) rfl (fun ls hl => ?_)
    refine lv_iconst (v := (1 : Int32)) hx hb dX3_meet_72 (by decide) ?_
    refine lv_istore (lv' := [(6, .int (1 : Int32)), (5, .int x10), (4, .int x3), (0, .ref h_t), (1, .long p0), (3, .int p1)]) hx hb dX3_meet_73 hl (by decide) rfl (fun ls hl => ?_)
    refine lv_iconst (v := (1 : Int32)) hx hb dX3_meet_75 (by decide) ?_
    refine lv_istore (lv' := [(7, .int (1 : Int32)), (6, .int (1 : Int32)), (5, .int x10), (4, .int x3), (0, .ref h_t), (1, .long p0), (3, .int p1)]) hx hb dX3_meet_76 hl (by decide) rfl (fun ls hl => ?_)
    have hK_X3_meet_78_111 : ∀  (vK78_111_0 : Nat → Int32) (vK78_111_1 : Int32) (H : Heap) (locs : List Loc) (ls : Array Slot), va_P G vwCl [(h_t, .inr (3, [.ref h_t_keys, .ref h_t_aboves, .ref h_t_rounds, .int t_round, .int t_size, .int t_sum, .long t_gathered])), (h_t_keys, .inl (cJ, 1024, .inr (.inl a_t_keys))), (h_t_rounds, .inl (cI, 1024, .inl vK78_111_0))] H → va_D A [(h_t, .inr (3, [.ref h_t_keys, .ref h_t_aboves, .ref h_t_rounds, .int t_round, .int t_size, .int t_sum, .long t_gathered])), (h_t_keys, .inl (cJ, 1024, .inr (.inl a_t_keys))), (h_t_rounds, .inl (cI, 1024, .inl vK78_111_0))] → va_S A s.heap H locs → lv_has ls 8 [(6, .int vK78_111_1)] → K_X3_meet_78_111 vK78_111_0 vK78_111_1 = some (r0, w0) → W p l e (headSpec wsX3_meet ({ frames := (d + 1) + 2, cells := 0, slots := 0, locals := 27 * (d + 1) + 47 })).room s m ([.ref h_t, .long p0, .int p1] : List Value).toArray below meth c H locs 0 0 (MQ below (va_Qi (fun r (_ : Unit) => r = r0 ∧ True) (fun _ t => va_P G vwCl [(h_t, .inr (3, [.ref h_t_keys, .ref h_t_aboves, .ref h_t_rounds, .int t_round, .int t_size, .int t_sum, .long t_gathered])), (h_t_keys, .inl (cJ, 1024, .inr (.inl a_t_keys))), (h_t_rounds, .inl (cI, 1024, .inl w0))] t.heap) A) ([.ref h_t, .long p0, .int p1] : List Value).toArray s 0 0 A) (F0 m 111 ls []) := by
      intro vK78_111_0 vK78_111_1 H locs ls hP hD hS hl h
      unfold K_X3_meet_78_111 at h
      refine lv_iload hx hb dX3_meet_111 (lv_at hl 0 rfl) ?_
      have h9 := Option.some.inj h
      have e9 : vK78_111_1 = r0 := congrArg (fun z9 => z9.1) h9
      rw [← e9]
      have e9 : vK78_111_0 = w0 := congrArg (fun z9 => z9.2) h9
      rw [← e9]
      exact k_iret hx hb hr hlocks hP hS rfl dX3_meet_113
    have hL78 : ∀ (n78 : Nat) (vL78_0 : Nat → Int32) (vL78_1 : Int32) (vL78_2 : Int32) (H : Heap) (locs : List Loc) (ls : Array Slot), va_P G vwCl [(h_t, .inr (3, [.ref h_t_keys, .ref h_t_aboves, .ref h_t_rounds, .int t_round, .int t_size, .int t_sum, .long t_gathered])), (h_t_keys, .inl (cJ, 1024, .inr (.inl a_t_keys))), (h_t_rounds, .inl (cI, 1024, .inl vL78_0))] H → va_D A [(h_t, .inr (3, [.ref h_t_keys, .ref h_t_aboves, .ref h_t_rounds, .int t_round, .int t_size, .int t_sum, .long t_gathered])), (h_t_keys, .inl (cJ, 1024, .inr (.inl a_t_keys))), (h_t_rounds, .inl (cI, 1024, .inl vL78_0))] → va_S A s.heap H locs → lv_has ls 8 [(0, .ref h_t), (1, .long p0), (3, .int p1), (5, .int x10), (6, .int vL78_1), (7, .int vL78_2)] → wq3 (B_X3_meet_78 (F_X3_meet d) t_round a_t_keys p0 p1 x10 K_X3_meet_78_111) n78 vL78_0 vL78_1 vL78_2 = some (r0, w0) → W p l e (headSpec wsX3_meet ({ frames := (d + 1) + 2, cells := 0, slots := 0, locals := 27 * (d + 1) + 47 })).room s m ([.ref h_t, .long p0, .int p1] : List Value).toArray below meth c H locs 0 0 (MQ below (va_Qi (fun r (_ : Unit) => r = r0 ∧ True) (fun _ t => va_P G vwCl [(h_t, .inr (3, [.ref h_t_keys, .ref h_t_aboves, .ref h_t_rounds, .int t_round, .int t_size, .int t_sum, .long t_gathered])), (h_t_keys, .inl (cJ, 1024, .inr (.inl a_t_keys))), (h_t_rounds, .inl (cI, 1024, .inl w0))] t.heap) A) ([.ref h_t, .long p0, .int p1] : List Value).toArray s 0 0 A) (F0 m 78 ls []) := by
      intro n78
      induction n78 with
      | zero => intro vL78_0 vL78_1 vL78_2 H locs ls hP hD hS hl h; exact wq3_0 h
      | succ n78 ih78 =>
        intro vL78_0 vL78_1 vL78_2 H locs ls hP hD hS hl h
        have h := wq3_s h
        unfold B_X3_meet_78 at h
        refine lv_iload hx hb dX3_meet_78 (lv_at hl 5 rfl) ?_
        refine lv_bipush (v := (14 : Int32)) hx hb dX3_meet_80 (by decide) ?_
        refine lv_icmp_gt (tgt := 111) hx hb dX3_meet_82 (by decide) (fun c11 => ?_) (fun c11 => ?_)
        · have h := it_p h c11
          exact hK_X3_meet_78_111 vL78_0 vL78_1 _ _ _ hP hD hS (lv_sub hl [4] rfl) h
        have h := it_n h c11
        refine lv_iload hx hb dX3_meet_85 (lv_at hl 4 rfl) ?_
        refine lv_aload_n hx hb dX3_meet_87 rfl (lv_at hl 0 rfl) ?_
        refine lv_lload_n hx hb dX3_meet_88 rfl (lv_at hl 1 rfl) ?_
        refine lv_iload hx hb dX3_meet_89 (lv_at hl 3 rfl) ?_
        refine lv_iload hx hb dX3_meet_91 (lv_at hl 5 rfl) ?_
        obtain ⟨x12, hx12, h⟩ := bd_e h
        try dsimp only at h
        refine k_SlU (n := 3) (As := [.long p0, .int x10, .int vL78_2]) (rest := [.ref h_t, .int vL78_1]) hx hb hml hown hts (c_X3_nextKey l G cI cJ cD cH H.size p0 x10 vL78_2 x12 hx12) gX3_meet_X3_nextKey rfl rfl rfl (by decide +kernel) ⟨by first | exact Nat.le_of_ble_eq_true rfl | (simp only [headSpec]; omega), by first | exact Nat.le_of_ble_eq_true rfl | (simp only [headSpec]; omega)⟩ hK hP hD hS hA [] (by decide) rfl rfl rfl hl.1 (Nat.le_of_ble_eq_true rfl) dX3_meet_93 ⟨Nat.zero_le _, Nat.zero_le _⟩ (fun hp12 H locs hP hS => ?_)
        refine lv_iload_n hx hb dX3_meet_96 rfl (lv_at hl 2 rfl) ?_
        refine lv_iconst (v := (1 : Int32)) hx hb dX3_meet_97 (by decide) ?_
        refine lv_iadd hx hb dX3_meet_98 ?_
        obtain ⟨x13, hx13, h⟩ := bd_e h
        try dsimp only at h
        refine k_ViM (n := 2) (As := [.long x12, .int (p1 + (1 : Int32))]) (rest := [.int vL78_1]) hx hb hml hown hts (ihd G cI cJ cD cH H.size h_t h_t_keys h_t_rounds h_t_aboves t_round t_size t_sum t_gathered a_t_keys vL78_0 x12 (p1 + (1 : Int32)) (x13.1) (x13.2) hx13) gX3_meet_X3_meet rfl rfl rfl (by decide +kernel) ⟨by first | exact Nat.le_of_ble_eq_true rfl | (simp only [headSpec]; omega), by first | exact Nat.le_of_ble_eq_true rfl | (simp only [headSpec]; omega)⟩ hK hP hD hS hA [0, 1, 2] (by decide) rfl rfl (ci := 3) rfl rfl rfl rfl rfl hl.1 (Nat.le_of_ble_eq_true rfl) dX3_meet_99 ⟨Nat.zero_le _, Nat.zero_le _⟩ [(h_t, .inr (3, [.ref h_t_keys, .ref h_t_aboves, .ref h_t_rounds, .int t_round, .int t_size, .int t_sum, .long t_gathered])), (h_t_keys, .inl (cJ, 1024, .inr (.inl a_t_keys))), (h_t_rounds, .inl (cI, 1024, .inl (x13.2)))] [1, 2, 3] 3 (by decide +kernel) rfl rfl rfl (fun hp13 H locs hP hD hS => ?_)
        refine lv_iadd hx hb dX3_meet_102 ?_
        refine lv_istore (lv' := [(6, .int (vL78_1 + (x13.1))), (0, .ref h_t), (1, .long p0), (3, .int p1), (5, .int x10), (7, .int vL78_2)]) hx hb dX3_meet_103 hl (by decide) rfl (fun ls hl => ?_)
        refine lv_iinc (v := (vL78_2 + (1 : Int32))) (lv' := [(7, .int (vL78_2 + (1 : Int32))), (6, .int (vL78_1 + (x13.1))), (0, .ref h_t), (1, .long p0), (3, .int p1), (5, .int x10)]) hx hb dX3_meet_105 hl (k := 5) rfl (by first | rfl | decide) (by decide) rfl (fun ls hl => ?_)
        refine lv_goto (tgt := 78) hx hb dX3_meet_108 (by decide) ?_
        exact ih78 (x13.2) (vL78_1 + (x13.1)) (vL78_2 + (1 : Int32)) _ _ _ hP hD hS (lv_sub hl [2, 3, 4, 5, 1, 0] rfl) h
    exact hL78 FU (upd a_t_rounds x3.toNatClampNeg t_round) (1 : Int32) (1 : Int32) _ _ _ hP hD hS (lv_sub hl [4, 5, 6, 2, 1, 0] rfl) h

/-! X3_countMet -/
set_option maxHeartbeats 4000000 in
set_option maxRecDepth 100000 in
theorem c_X3_countMet (l : Launch) (G : va_G) (cI cJ cD cH : ClassId) (sz : Nat) (h_t : Nat) (h_t_keys : Nat) (h_t_aboves : Nat) (h_t_rounds : Nat) (t_round : Int32) (t_size : Int32) (t_sum : Int32) (t_gathered : Int64) (a_t_keys : Nat → Int64) (a_t_aboves : Nat → Int64) (a_t_rounds : Nat → Int32) (p0 : Int64) (r0 : Int32) (w0 : Nat → Int64) (w1 : Nat → Int64) (w2 : Nat → Int32) (w3 : Int32) (hF : F_X3_countMet t_round a_t_keys a_t_aboves a_t_rounds p0 = some (r0, w0, w1, w2, w3)) : Met l yX3_countMet wsX3_countMet ({ frames := 23, cells := 0, slots := 0, locals := 679 }) (k_pre G (k_T cI cJ cD cH) [(h_t, .inr (3, [.ref h_t_keys, .ref h_t_aboves, .ref h_t_rounds, .int t_round, .int t_size, .int t_sum, .long t_gathered])), (h_t_keys, .inl (cJ, 1024, .inr (.inl a_t_keys))), (h_t_aboves, .inl (cJ, 1024, .inr (.inl a_t_aboves))), (h_t_rounds, .inl (cI, 1024, .inl a_t_rounds))] sz [.ref h_t, .long p0]) (va_Qi (fun r (_ : Unit) => r = r0 ∧ True) (fun _ t => va_P G vwCl [(h_t, .inr (3, [.ref h_t_keys, .ref h_t_aboves, .ref h_t_rounds, .int w3, .int t_size, .int t_sum, .long t_gathered])), (h_t_keys, .inl (cJ, 1024, .inr (.inl w0))), (h_t_aboves, .inl (cJ, 1024, .inr (.inl w1))), (h_t_rounds, .inl (cI, 1024, .inl w2))] t.heap) (va_A [(h_t, .inr (3, [.ref h_t_keys, .ref h_t_aboves, .ref h_t_rounds, .int t_round, .int t_size, .int t_sum, .long t_gathered])), (h_t_keys, .inl (cJ, 1024, .inr (.inl a_t_keys))), (h_t_aboves, .inl (cJ, 1024, .inr (.inl a_t_aboves))), (h_t_rounds, .inl (cI, 1024, .inl a_t_rounds))] sz)) 0 0 (va_A [(h_t, .inr (3, [.ref h_t_keys, .ref h_t_aboves, .ref h_t_rounds, .int t_round, .int t_size, .int t_sum, .long t_gathered])), (h_t_keys, .inl (cJ, 1024, .inr (.inl a_t_keys))), (h_t_aboves, .inl (cJ, 1024, .inr (.inl a_t_aboves))), (h_t_rounds, .inl (cI, 1024, .inl a_t_rounds))] sz) := by
  refine Met.ofW (cc := cX3_countMet) (maxL := 3) (ret := (some .int)) (by decide) rfl ?_
  intro p e s m args below meth c s₁ B hml hv
  obtain ⟨rfl, hsz, hP, hK, hD0⟩ := hv
  have hx := B.exec
  have hb := B.bytes
  have hr := B.returns
  have hts := atoms_spec (ws := wsX3_countMet) B.pre
  have hta : ∀ w ∈ wA, w.before ([.ref h_t, .long p0] : List Value).toArray s = true := hta_of hts
  have hown : s.vm.findClass RX3 = some m.cls := findClass_of_methodNamed B.named
  have hlocks := B.notSynchronized
  subst hsz
  have hD := hD0.self (sz := s.heap.size)
  generalize hAe : va_A [(h_t, .inr (3, [.ref h_t_keys, .ref h_t_aboves, .ref h_t_rounds, .int t_round, .int t_size, .int t_sum, .long t_gathered])), (h_t_keys, .inl (cJ, 1024, .inr (.inl a_t_keys))), (h_t_aboves, .inl (cJ, 1024, .inr (.inl a_t_aboves))), (h_t_rounds, .inl (cI, 1024, .inl a_t_rounds))] s.heap.size = A at hD ⊢
  have hA : ∀ q : Nat, s.heap.size ≤ q → A q := fun q h => by rw [← hAe]; exact Or.inr h
  have hS : va_S A s.heap s.heap [] := va_S.rf
  have hl := lv_entry ([.ref h_t, .long p0]) (n := 3) (Nat.le_of_ble_eq_true rfl)
  rw [lg_entry_eq]
  generalize (lg_sl ([.ref h_t, .long p0]) ++ List.replicate (3 - (lg_sl ([.ref h_t, .long p0])).length) Slot.unset).toArray = ls at hl ⊢
  have hl : lv_has ls 3 [(0, .ref h_t), (1, .long p0)] := hl
  have hinX3 : ∀ w ∈ wsX30, w ∈ wsX3_countMet := hin_of in_X3
  have h := hF
  unfold F_X3_countMet at h
  refine lv_aload_n hx hb dX3_countMet_0 rfl (lv_at hl 0 rfl) ?_
  refine lv_lload_n hx hb dX3_countMet_1 rfl (lv_at hl 1 rfl) ?_
  refine lv_iconst (v := (0 : Int32)) hx hb dX3_countMet_2 (by decide) ?_
  obtain ⟨x1, hx1, h⟩ := bd_e h
  try dsimp only at h
  refine k_VlM (n := 2) (As := [.long p0, .int (0 : Int32)]) (rest := []) hx hb hml hown hts (c_X3_workOut l 20 G cI cJ cD cH s.heap.size h_t h_t_keys h_t_aboves h_t_rounds t_round t_size t_sum t_gathered a_t_keys a_t_aboves p0 (0 : Int32) (x1.1) (x1.2.1) (x1.2.2) hx1) gX3_countMet_X3_workOut rfl rfl rfl (by decide +kernel) ⟨by first | exact Nat.le_of_ble_eq_true rfl | (simp only [headSpec]; omega), by first | exact Nat.le_of_ble_eq_true rfl | (simp only [headSpec]; omega)⟩ hK hP hD hS hA [0, 1, 2] (by decide) rfl rfl (ci := 3) rfl rfl rfl rfl rfl hl.1 (Nat.le_of_ble_eq_true rfl) dX3_countMet_3 ⟨Nat.zero_le _, Nat.zero_le _⟩ [(h_t, .inr (3, [.ref h_t_keys, .ref h_t_aboves, .ref h_t_rounds, .int t_round, .int t_size, .int t_sum, .long t_gathered])), (h_t_keys, .inl (cJ, 1024, .inr (.inl (x1.2.1)))), (h_t_aboves, .inl (cJ, 1024, .inr (.inl (x1.2.2)))), (h_t_rounds, .inl (cI, 1024, .inl a_t_rounds))] [1, 2, 3, 0] 3 (by decide +kernel) rfl rfl rfl (fun hp1 H locs hP hD hS => ?_)
  refine lv_pop2_2 hx hb dX3_countMet_6 rfl ?_
  refine lv_aload_n hx hb dX3_countMet_7 rfl (lv_at hl 0 rfl) ?_
  refine lv_dup hx hb dX3_countMet_8 rfl ?_
  refine va_get (D := G) (ci := 3) (v := .int t_round) (C := RX3) (T := TX3) (N := 7) hx hb hts hinX3 hown hK hP 0 rfl rfl 3 (by decide) (hta _ mw_167) (fun _ h9 => h9) rfl dX3_countMet_9 ?_
  refine lv_iconst (v := (1 : Int32)) hx hb dX3_countMet_12 (by decide) ?_
  refine lv_iadd hx hb dX3_countMet_13 ?_
  refine va_put (D := G) (ci := 3) (v := .int (t_round + (1 : Int32))) (ty := .int) (C := RX3) (T := TX3) (N := 7) hx hb hts hinX3 tyX3 tyX3_ok nmX3 hown hK hP hD hS 0 rfl rfl 3 (by decide) (hta _ mw_167) (fun _ h9 => h9) rfl (by decide +kernel) rfl rfl (Nat.le_of_ble_eq_true rfl) dX3_countMet_14 (fun H locs hP hD hS => ?_)
  have hP : va_P G vwCl [(h_t, .inr (3, [.ref h_t_keys, .ref h_t_aboves, .ref h_t_rounds, .int (t_round + (1 : Int32)), .int t_size, .int t_sum, .long t_gathered])), (h_t_keys, .inl (cJ, 1024, .inr (.inl (x1.2.1)))), (h_t_aboves, .inl (cJ, 1024, .inr (.inl (x1.2.2)))), (h_t_rounds, .inl (cI, 1024, .inl a_t_rounds))] H := hP
  have hD : va_D A [(h_t, .inr (3, [.ref h_t_keys, .ref h_t_aboves, .ref h_t_rounds, .int (t_round + (1 : Int32)), .int t_size, .int t_sum, .long t_gathered])), (h_t_keys, .inl (cJ, 1024, .inr (.inl (x1.2.1)))), (h_t_aboves, .inl (cJ, 1024, .inr (.inl (x1.2.2)))), (h_t_rounds, .inl (cI, 1024, .inl a_t_rounds))] := hD
  refine lv_aload_n hx hb dX3_countMet_17 rfl (lv_at hl 0 rfl) ?_
  refine lv_lload_n hx hb dX3_countMet_18 rfl (lv_at hl 1 rfl) ?_
  refine lv_iconst (v := (0 : Int32)) hx hb dX3_countMet_19 (by decide) ?_
  obtain ⟨x2, hx2, h⟩ := bd_e h
  try dsimp only at h
  refine k_ViM (n := 2) (As := [.long p0, .int (0 : Int32)]) (rest := []) hx hb hml hown hts (c_X3_meet l 20 G cI cJ cD cH H.size h_t h_t_keys h_t_rounds h_t_aboves (t_round + (1 : Int32)) t_size t_sum t_gathered (x1.2.1) a_t_rounds p0 (0 : Int32) (x2.1) (x2.2) hx2) gX3_countMet_X3_meet rfl rfl rfl (by decide +kernel) ⟨by first | exact Nat.le_of_ble_eq_true rfl | (simp only [headSpec]; omega), by first | exact Nat.le_of_ble_eq_true rfl | (simp only [headSpec]; omega)⟩ hK hP hD hS hA [0, 1, 3] (by decide) rfl rfl (ci := 3) rfl rfl rfl rfl rfl hl.1 (Nat.le_of_ble_eq_true rfl) dX3_countMet_20 ⟨Nat.zero_le _, Nat.zero_le _⟩ [(h_t, .inr (3, [.ref h_t_keys, .ref h_t_aboves, .ref h_t_rounds, .int (t_round + (1 : Int32)), .int t_size, .int t_sum, .long t_gathered])), (h_t_keys, .inl (cJ, 1024, .inr (.inl (x1.2.1)))), (h_t_aboves, .inl (cJ, 1024, .inr (.inl (x1.2.2)))), (h_t_rounds, .inl (cI, 1024, .inl (x2.2)))] [1, 2, 0, 3] 3 (by decide +kernel) rfl rfl rfl (fun hp2 H locs hP hD hS => ?_)
  have h9 := Option.some.inj h
  have e9 : (x2.1) = r0 := congrArg (fun z9 => z9.1) h9
  rw [← e9]
  have e9 : (x1.2.1) = w0 := congrArg (fun z9 => z9.2.1) h9
  rw [← e9]
  have e9 : (x1.2.2) = w1 := congrArg (fun z9 => z9.2.2.1) h9
  rw [← e9]
  have e9 : (x2.2) = w2 := congrArg (fun z9 => z9.2.2.2.1) h9
  rw [← e9]
  have e9 : (t_round + (1 : Int32)) = w3 := congrArg (fun z9 => z9.2.2.2.2) h9
  rw [← e9]
  exact k_iret hx hb hr hlocks hP hS rfl dX3_countMet_23

/-! X4_causeAt -/
set_option maxHeartbeats 4000000 in
set_option maxRecDepth 100000 in
theorem c_X4_causeAt (l : Launch) (G : va_G) (cI cJ cD cH : ClassId) (sz : Nat) (h_t : Nat) (h_t_causes : Nat) (h_t_tape : Nat) (h_t_told : Nat) (t_refused : Int32) (t_place : Int32) (t_cannotBe : Int32) (a_t_causes : Nat → Int32) (p0 : Int32) (p1 : Int32) (r0 : Int32) (hF : F_X4_causeAt a_t_causes p0 p1 = some r0) : Met l yX4_causeAt wsX4_causeAt ({ frames := 0, cells := 0, slots := 0, locals := 0 }) (k_pre G (k_T cI cJ cD cH) [(h_t, .inr (4, [.ref h_t_tape, .ref h_t_told, .ref h_t_causes, .int t_refused, .int t_place, .int t_cannotBe])), (h_t_causes, .inl (cI, 6, .inl a_t_causes))] sz [.ref h_t, .int p0, .int p1]) (va_Qi (fun r (_ : Unit) => r = r0 ∧ True) (fun _ t => va_P G vwCl [(h_t, .inr (4, [.ref h_t_tape, .ref h_t_told, .ref h_t_causes, .int t_refused, .int t_place, .int t_cannotBe])), (h_t_causes, .inl (cI, 6, .inl a_t_causes))] t.heap) (va_A [(h_t, .inr (4, [.ref h_t_tape, .ref h_t_told, .ref h_t_causes, .int t_refused, .int t_place, .int t_cannotBe])), (h_t_causes, .inl (cI, 6, .inl a_t_causes))] sz)) 0 0 (va_A [(h_t, .inr (4, [.ref h_t_tape, .ref h_t_told, .ref h_t_causes, .int t_refused, .int t_place, .int t_cannotBe])), (h_t_causes, .inl (cI, 6, .inl a_t_causes))] sz) := by
  refine Met.ofW (cc := cX4_causeAt) (maxL := 4) (ret := (some .int)) (by decide) rfl ?_
  intro p e s m args below meth c s₁ B hml hv
  obtain ⟨rfl, hsz, hP, hK, hD0⟩ := hv
  have hx := B.exec
  have hb := B.bytes
  have hr := B.returns
  have hts := atoms_spec (ws := wsX4_causeAt) B.pre
  have hta : ∀ w ∈ wA, w.before ([.ref h_t, .int p0, .int p1] : List Value).toArray s = true := hta_of hts
  have hown : s.vm.findClass RX4 = some m.cls := findClass_of_methodNamed B.named
  have hlocks := B.notSynchronized
  subst hsz
  have hD := hD0.self (sz := s.heap.size)
  generalize hAe : va_A [(h_t, .inr (4, [.ref h_t_tape, .ref h_t_told, .ref h_t_causes, .int t_refused, .int t_place, .int t_cannotBe])), (h_t_causes, .inl (cI, 6, .inl a_t_causes))] s.heap.size = A at hD ⊢
  have hA : ∀ q : Nat, s.heap.size ≤ q → A q := fun q h => by rw [← hAe]; exact Or.inr h
  have hS : va_S A s.heap s.heap [] := va_S.rf
  have hl := lv_entry ([.ref h_t, .int p0, .int p1]) (n := 4) (Nat.le_of_ble_eq_true rfl)
  rw [lg_entry_eq]
  generalize (lg_sl ([.ref h_t, .int p0, .int p1]) ++ List.replicate (4 - (lg_sl ([.ref h_t, .int p0, .int p1])).length) Slot.unset).toArray = ls at hl ⊢
  have hl : lv_has ls 4 [(0, .ref h_t), (1, .int p0), (2, .int p1)] := hl
  have hinX4 : ∀ w ∈ wsX40, w ∈ wsX4_causeAt := hin_of in_X4
  have h := hF
  unfold F_X4_causeAt at h
  refine lv_iconst (v := (2 : Int32)) hx hb dX4_causeAt_0 (by decide) ?_
  refine lv_iload_n hx hb dX4_causeAt_1 rfl (lv_at hl 1 rfl) ?_
  refine lv_imul hx hb dX4_causeAt_2 ?_
  refine lv_iload_n hx hb dX4_causeAt_3 rfl (lv_at hl 2 rfl) ?_
  refine lv_iadd hx hb dX4_causeAt_4 ?_
  refine lv_istore_n (lv' := [(3, .int (((2 : Int32) * p0) + p1)), (0, .ref h_t), (1, .int p0), (2, .int p1)]) hx hb dX4_causeAt_5 rfl hl (by decide) rfl (fun ls hl => ?_)
  refine lv_iload_n hx hb dX4_causeAt_6 rfl (lv_at hl 0 rfl) ?_
  refine lv_if_lt (tgt := 25) hx hb dX4_causeAt_7 (by decide) (fun c1 => ?_) (fun c1 => ?_)
  · have h := it_p h c1
    refine lv_iconst (v := (-1 : Int32)) hx hb dX4_causeAt_25 (by decide) ?_
    have h9 := Option.some.inj h
    have e9 : (-1 : Int32) = r0 := congrArg (fun z9 => z9) h9
    rw [← e9]
    exact k_iret hx hb hr hlocks hP hS rfl dX4_causeAt_26
  have h := it_n h c1
  refine lv_iload_n hx hb dX4_causeAt_10 rfl (lv_at hl 0 rfl) ?_
  refine lv_bipush (v := (6 : Int32)) hx hb dX4_causeAt_11 (by decide) ?_
  refine lv_icmp_ge (tgt := 25) hx hb dX4_causeAt_13 (by decide) (fun c2 => ?_) (fun c2 => ?_)
  · have h := it_p h c2
    refine lv_iconst (v := (-1 : Int32)) hx hb dX4_causeAt_25 (by decide) ?_
    have h9 := Option.some.inj h
    have e9 : (-1 : Int32) = r0 := congrArg (fun z9 => z9) h9
    rw [← e9]
    exact k_iret hx hb hr hlocks hP hS rfl dX4_causeAt_26
  have h := it_n h c2
  refine lv_aload_n hx hb dX4_causeAt_16 rfl (lv_at hl 1 rfl) ?_
  refine va_get (D := G) (ci := 4) (v := .ref h_t_causes) (C := RX4) (T := TX4) (N := 6) hx hb hts hinX4 hown hK hP 0 rfl rfl 2 (by decide) (hta _ mw_180) (fun _ h9 => h9) rfl dX4_causeAt_17 ?_
  refine lv_iload_n hx hb dX4_causeAt_20 rfl (lv_at hl 0 rfl) ?_
  obtain ⟨hn3, h⟩ := ck_e h
  refine va_iald hx hb hK hP 1 0 rfl rfl hn3 dX4_causeAt_21 ?_
  refine lv_goto (tgt := 26) hx hb dX4_causeAt_22 (by decide) ?_
  have h9 := Option.some.inj h
  have e9 : (a_t_causes (((2 : Int32) * p0) + p1).toNatClampNeg) = r0 := congrArg (fun z9 => z9) h9
  rw [← e9]
  exact k_iret hx hb hr hlocks hP hS rfl dX4_causeAt_26

/-! X7_byteAt -/
set_option maxHeartbeats 4000000 in
set_option maxRecDepth 100000 in
theorem c_X7_byteAt (l : Launch) (G : va_G) (cI cJ cD cH : ClassId) (sz : Nat) (h_t : Nat) (h_t_bytes : Nat) (t_size : Int32) (a_t_bytes : Nat → Int32) (p0 : Int32) (r0 : Int32) (hF : F_X7_byteAt t_size a_t_bytes p0 = some r0) : Met l yX7_byteAt wsX7_byteAt ({ frames := 0, cells := 0, slots := 0, locals := 0 }) (k_pre G (k_T cI cJ cD cH) [(h_t, .inr (6, [.ref h_t_bytes, .int t_size])), (h_t_bytes, .inl (cI, 60, .inl a_t_bytes))] sz [.ref h_t, .int p0]) (va_Qi (fun r (_ : Unit) => r = r0 ∧ True) (fun _ t => va_P G vwCl [(h_t, .inr (6, [.ref h_t_bytes, .int t_size])), (h_t_bytes, .inl (cI, 60, .inl a_t_bytes))] t.heap) (va_A [(h_t, .inr (6, [.ref h_t_bytes, .int t_size])), (h_t_bytes, .inl (cI, 60, .inl a_t_bytes))] sz)) 0 0 (va_A [(h_t, .inr (6, [.ref h_t_bytes, .int t_size])), (h_t_bytes, .inl (cI, 60, .inl a_t_bytes))] sz) := by
  refine Met.ofW (cc := cX7_byteAt) (maxL := 2) (ret := (some .int)) (by decide) rfl ?_
  intro p e s m args below meth c s₁ B hml hv
  obtain ⟨rfl, hsz, hP, hK, hD0⟩ := hv
  have hx := B.exec
  have hb := B.bytes
  have hr := B.returns
  have hts := atoms_spec (ws := wsX7_byteAt) B.pre
  have hta : ∀ w ∈ wA, w.before ([.ref h_t, .int p0] : List Value).toArray s = true := hta_of hts
  have hown : s.vm.findClass RX7 = some m.cls := findClass_of_methodNamed B.named
  have hlocks := B.notSynchronized
  subst hsz
  have hD := hD0.self (sz := s.heap.size)
  generalize hAe : va_A [(h_t, .inr (6, [.ref h_t_bytes, .int t_size])), (h_t_bytes, .inl (cI, 60, .inl a_t_bytes))] s.heap.size = A at hD ⊢
  have hA : ∀ q : Nat, s.heap.size ≤ q → A q := fun q h => by rw [← hAe]; exact Or.inr h
  have hS : va_S A s.heap s.heap [] := va_S.rf
  have hl := lv_entry ([.ref h_t, .int p0]) (n := 2) (Nat.le_of_ble_eq_true rfl)
  rw [lg_entry_eq]
  generalize (lg_sl ([.ref h_t, .int p0]) ++ List.replicate (2 - (lg_sl ([.ref h_t, .int p0])).length) Slot.unset).toArray = ls at hl ⊢
  have hl : lv_has ls 2 [(0, .ref h_t), (1, .int p0)] := hl
  have hinX7 : ∀ w ∈ wsX70, w ∈ wsX7_byteAt := hin_of in_X7
  have h := hF
  unfold F_X7_byteAt at h
  refine lv_iload_n hx hb dX7_byteAt_0 rfl (lv_at hl 1 rfl) ?_
  refine lv_if_lt (tgt := 27) hx hb dX7_byteAt_1 (by decide) (fun c1 => ?_) (fun c1 => ?_)
  · have h := it_p h c1
    refine lv_iconst (v := (-1 : Int32)) hx hb dX7_byteAt_27 (by decide) ?_
    have h9 := Option.some.inj h
    have e9 : (-1 : Int32) = r0 := congrArg (fun z9 => z9) h9
    rw [← e9]
    exact k_iret hx hb hr hlocks hP hS rfl dX7_byteAt_28
  have h := it_n h c1
  refine lv_iload_n hx hb dX7_byteAt_4 rfl (lv_at hl 1 rfl) ?_
  refine lv_aload_n hx hb dX7_byteAt_5 rfl (lv_at hl 0 rfl) ?_
  refine va_get (D := G) (ci := 6) (v := .int t_size) (C := RX7) (T := TX7) (N := 2) hx hb hts hinX7 hown hK hP 0 rfl rfl 1 (by decide) (hta _ mw_212) (fun _ h9 => h9) rfl dX7_byteAt_6 ?_
  refine lv_icmp_ge (tgt := 27) hx hb dX7_byteAt_9 (by decide) (fun c2 => ?_) (fun c2 => ?_)
  · have h := it_p h c2
    refine lv_iconst (v := (-1 : Int32)) hx hb dX7_byteAt_27 (by decide) ?_
    have h9 := Option.some.inj h
    have e9 : (-1 : Int32) = r0 := congrArg (fun z9 => z9) h9
    rw [← e9]
    exact k_iret hx hb hr hlocks hP hS rfl dX7_byteAt_28
  have h := it_n h c2
  refine lv_iload_n hx hb dX7_byteAt_12 rfl (lv_at hl 1 rfl) ?_
  refine lv_bipush (v := (60 : Int32)) hx hb dX7_byteAt_13 (by decide) ?_
  refine lv_icmp_ge (tgt := 27) hx hb dX7_byteAt_15 (by decide) (fun c3 => ?_) (fun c3 => ?_)
  · have h := it_p h c3
    refine lv_iconst (v := (-1 : Int32)) hx hb dX7_byteAt_27 (by decide) ?_
    have h9 := Option.some.inj h
    have e9 : (-1 : Int32) = r0 := congrArg (fun z9 => z9) h9
    rw [← e9]
    exact k_iret hx hb hr hlocks hP hS rfl dX7_byteAt_28
  have h := it_n h c3
  refine lv_aload_n hx hb dX7_byteAt_18 rfl (lv_at hl 0 rfl) ?_
  refine va_get (D := G) (ci := 6) (v := .ref h_t_bytes) (C := RX7) (T := TX7) (N := 2) hx hb hts hinX7 hown hK hP 0 rfl rfl 0 (by decide) (hta _ mw_185) (fun _ h9 => h9) rfl dX7_byteAt_19 ?_
  refine lv_iload_n hx hb dX7_byteAt_22 rfl (lv_at hl 1 rfl) ?_
  obtain ⟨hn4, h⟩ := ck_e h
  refine va_iald hx hb hK hP 1 0 rfl rfl hn4 dX7_byteAt_23 ?_
  refine lv_goto (tgt := 28) hx hb dX7_byteAt_24 (by decide) ?_
  have h9 := Option.some.inj h
  have e9 : (a_t_bytes p0.toNatClampNeg) = r0 := congrArg (fun z9 => z9) h9
  rw [← e9]
  exact k_iret hx hb hr hlocks hP hS rfl dX7_byteAt_28

/-! X4_readSign -/
set_option maxHeartbeats 4000000 in
set_option maxRecDepth 100000 in
theorem c_X4_readSign (l : Launch) (G : va_G) (cI cJ cD cH : ClassId) (sz : Nat) (h_t : Nat) (h_t_tape : Nat) (h_t_tape_bytes : Nat) (h_t_told : Nat) (h_t_causes : Nat) (t_refused : Int32) (t_place : Int32) (t_cannotBe : Int32) (t_tape_size : Int32) (a_t_tape_bytes : Nat → Int32) (p0 : Int32) (r0 : Int32) (w0 : Int32) (hF : F_X4_readSign t_place t_tape_size a_t_tape_bytes p0 = some (r0, w0)) : Met l yX4_readSign wsX4_readSign ({ frames := 1, cells := 0, slots := 0, locals := 21 }) (k_pre G (k_T cI cJ cD cH) [(h_t, .inr (4, [.ref h_t_tape, .ref h_t_told, .ref h_t_causes, .int t_refused, .int t_place, .int t_cannotBe])), (h_t_tape, .inr (6, [.ref h_t_tape_bytes, .int t_tape_size])), (h_t_tape_bytes, .inl (cI, 60, .inl a_t_tape_bytes))] sz [.ref h_t, .int p0]) (va_Qi (fun r (_ : Unit) => r = r0 ∧ narrow .boolean (.int r0) = .int r0) (fun _ t => va_P G vwCl [(h_t, .inr (4, [.ref h_t_tape, .ref h_t_told, .ref h_t_causes, .int t_refused, .int w0, .int t_cannotBe])), (h_t_tape, .inr (6, [.ref h_t_tape_bytes, .int t_tape_size])), (h_t_tape_bytes, .inl (cI, 60, .inl a_t_tape_bytes))] t.heap) (va_A [(h_t, .inr (4, [.ref h_t_tape, .ref h_t_told, .ref h_t_causes, .int t_refused, .int t_place, .int t_cannotBe])), (h_t_tape, .inr (6, [.ref h_t_tape_bytes, .int t_tape_size])), (h_t_tape_bytes, .inl (cI, 60, .inl a_t_tape_bytes))] sz)) 0 0 (va_A [(h_t, .inr (4, [.ref h_t_tape, .ref h_t_told, .ref h_t_causes, .int t_refused, .int t_place, .int t_cannotBe])), (h_t_tape, .inr (6, [.ref h_t_tape_bytes, .int t_tape_size])), (h_t_tape_bytes, .inl (cI, 60, .inl a_t_tape_bytes))] sz) := by
  refine Met.ofW (cc := cX4_readSign) (maxL := 2) (ret := (some .boolean)) (by decide) rfl ?_
  intro p e s m args below meth c s₁ B hml hv
  obtain ⟨rfl, hsz, hP, hK, hD0⟩ := hv
  have hx := B.exec
  have hb := B.bytes
  have hr := B.returns
  have hts := atoms_spec (ws := wsX4_readSign) B.pre
  have hta : ∀ w ∈ wA, w.before ([.ref h_t, .int p0] : List Value).toArray s = true := hta_of hts
  have hown : s.vm.findClass RX4 = some m.cls := findClass_of_methodNamed B.named
  have hlocks := B.notSynchronized
  subst hsz
  have hD := hD0.self (sz := s.heap.size)
  generalize hAe : va_A [(h_t, .inr (4, [.ref h_t_tape, .ref h_t_told, .ref h_t_causes, .int t_refused, .int t_place, .int t_cannotBe])), (h_t_tape, .inr (6, [.ref h_t_tape_bytes, .int t_tape_size])), (h_t_tape_bytes, .inl (cI, 60, .inl a_t_tape_bytes))] s.heap.size = A at hD ⊢
  have hA : ∀ q : Nat, s.heap.size ≤ q → A q := fun q h => by rw [← hAe]; exact Or.inr h
  have hS : va_S A s.heap s.heap [] := va_S.rf
  have hl := lv_entry ([.ref h_t, .int p0]) (n := 2) (Nat.le_of_ble_eq_true rfl)
  rw [lg_entry_eq]
  generalize (lg_sl ([.ref h_t, .int p0]) ++ List.replicate (2 - (lg_sl ([.ref h_t, .int p0])).length) Slot.unset).toArray = ls at hl ⊢
  have hl : lv_has ls 2 [(0, .ref h_t), (1, .int p0)] := hl
  have hinX4 : ∀ w ∈ wsX40, w ∈ wsX4_readSign := hin_of in_X4
  have h := hF
  unfold F_X4_readSign at h
  refine lv_aload_n hx hb dX4_readSign_0 rfl (lv_at hl 0 rfl) ?_
  refine va_get (D := G) (ci := 4) (v := .ref h_t_tape) (C := RX4) (T := TX4) (N := 6) hx hb hts hinX4 hown hK hP 0 rfl rfl 0 (by decide) (hta _ mw_177) (fun _ h9 => h9) rfl dX4_readSign_1 ?_
  refine lv_aload_n hx hb dX4_readSign_4 rfl (lv_at hl 0 rfl) ?_
  refine va_get (D := G) (ci := 4) (v := .int t_place) (C := RX4) (T := TX4) (N := 6) hx hb hts hinX4 hown hK hP 0 rfl rfl 4 (by decide) (hta _ mw_189) (fun _ h9 => h9) rfl dX4_readSign_5 ?_
  obtain ⟨x1, hx1, h⟩ := bd_e h
  try dsimp only at h
  refine k_ViU (n := 1) (As := [.int t_place]) (rest := []) hx hb hml hown hts (c_X7_byteAt l G cI cJ cD cH s.heap.size h_t_tape h_t_tape_bytes t_tape_size a_t_tape_bytes t_place x1 hx1) gX4_readSign_X7_byteAt rfl rfl rfl (by decide +kernel) ⟨by first | exact Nat.le_of_ble_eq_true rfl | (simp only [headSpec]; omega), by first | exact Nat.le_of_ble_eq_true rfl | (simp only [headSpec]; omega)⟩ hK hP hD hS hA [1, 2] (by decide) rfl (ci := 6) rfl rfl rfl rfl rfl hl.1 (Nat.le_of_ble_eq_true rfl) dX4_readSign_8 ⟨Nat.zero_le _, Nat.zero_le _⟩ (fun hp1 H locs hP hS => ?_)
  refine lv_iload_n hx hb dX4_readSign_11 rfl (lv_at hl 1 rfl) ?_
  refine lv_icmp_eq (tgt := 17) hx hb dX4_readSign_12 (by decide) (fun c2 => ?_) (fun c2 => ?_)
  rotate_left
  · have h := it_n h c2
    refine lv_iconst (v := (0 : Int32)) hx hb dX4_readSign_15 (by decide) ?_
    have h9 := Option.some.inj h
    have e9 : (0 : Int32) = r0 := congrArg (fun z9 => z9.1) h9
    rw [← e9]
    have e9 : t_place = w0 := congrArg (fun z9 => z9.2) h9
    rw [← e9]
    exact k_zret hx hb hr hlocks hP hS rfl rfl dX4_readSign_16
  have h := it_p h c2
  refine lv_aload_n hx hb dX4_readSign_17 rfl (lv_at hl 0 rfl) ?_
  refine lv_dup hx hb dX4_readSign_18 rfl ?_
  refine va_get (D := G) (ci := 4) (v := .int t_place) (C := RX4) (T := TX4) (N := 6) hx hb hts hinX4 hown hK hP 0 rfl rfl 4 (by decide) (hta _ mw_189) (fun _ h9 => h9) rfl dX4_readSign_19 ?_
  refine lv_iconst (v := (1 : Int32)) hx hb dX4_readSign_22 (by decide) ?_
  refine lv_iadd hx hb dX4_readSign_23 ?_
  refine va_put (D := G) (ci := 4) (v := .int (t_place + (1 : Int32))) (ty := .int) (C := RX4) (T := TX4) (N := 6) hx hb hts hinX4 tyX4 tyX4_ok nmX4 hown hK hP hD hS 0 rfl rfl 4 (by decide) (hta _ mw_189) (fun _ h9 => h9) rfl (by decide +kernel) rfl rfl (Nat.le_of_ble_eq_true rfl) dX4_readSign_24 (fun H locs hP hD hS => ?_)
  have hP : va_P G vwCl [(h_t, .inr (4, [.ref h_t_tape, .ref h_t_told, .ref h_t_causes, .int t_refused, .int (t_place + (1 : Int32)), .int t_cannotBe])), (h_t_tape, .inr (6, [.ref h_t_tape_bytes, .int t_tape_size])), (h_t_tape_bytes, .inl (cI, 60, .inl a_t_tape_bytes))] H := hP
  have hD : va_D A [(h_t, .inr (4, [.ref h_t_tape, .ref h_t_told, .ref h_t_causes, .int t_refused, .int (t_place + (1 : Int32)), .int t_cannotBe])), (h_t_tape, .inr (6, [.ref h_t_tape_bytes, .int t_tape_size])), (h_t_tape_bytes, .inl (cI, 60, .inl a_t_tape_bytes))] := hD
  refine lv_iconst (v := (1 : Int32)) hx hb dX4_readSign_27 (by decide) ?_
  have h9 := Option.some.inj h
  have e9 : (1 : Int32) = r0 := congrArg (fun z9 => z9.1) h9
  rw [← e9]
  have e9 : (t_place + (1 : Int32)) = w0 := congrArg (fun z9 => z9.2) h9
  rw [← e9]
  exact k_zret hx hb hr hlocks hP hS rfl rfl dX4_readSign_28

/-! X4_noteCannotBe -/
set_option maxHeartbeats 4000000 in
set_option maxRecDepth 100000 in
theorem c_X4_noteCannotBe (l : Launch) (G : va_G) (cI cJ cD cH : ClassId) (sz : Nat) (h_t : Nat) (h_t_tape : Nat) (h_t_told : Nat) (h_t_causes : Nat) (t_refused : Int32) (t_place : Int32) (t_cannotBe : Int32) (p0 : Int32) (w0 : Int32) (hF : F_X4_noteCannotBe t_cannotBe p0 = some w0) : Met l yX4_noteCannotBe wsX4_noteCannotBe ({ frames := 0, cells := 0, slots := 0, locals := 0 }) (k_pre G (k_T cI cJ cD cH) [(h_t, .inr (4, [.ref h_t_tape, .ref h_t_told, .ref h_t_causes, .int t_refused, .int t_place, .int t_cannotBe]))] sz [.ref h_t, .int p0]) (va_Qv (fun (_ : Unit) => True) (fun _ t => va_P G vwCl [(h_t, .inr (4, [.ref h_t_tape, .ref h_t_told, .ref h_t_causes, .int t_refused, .int t_place, .int w0]))] t.heap) (va_A [(h_t, .inr (4, [.ref h_t_tape, .ref h_t_told, .ref h_t_causes, .int t_refused, .int t_place, .int t_cannotBe]))] sz)) 0 0 (va_A [(h_t, .inr (4, [.ref h_t_tape, .ref h_t_told, .ref h_t_causes, .int t_refused, .int t_place, .int t_cannotBe]))] sz) := by
  refine Met.ofW (cc := cX4_noteCannotBe) (maxL := 2) (ret := none) (by decide) rfl ?_
  intro p e s m args below meth c s₁ B hml hv
  obtain ⟨rfl, hsz, hP, hK, hD0⟩ := hv
  have hx := B.exec
  have hb := B.bytes
  have hr := B.returns
  have hts := atoms_spec (ws := wsX4_noteCannotBe) B.pre
  have hta : ∀ w ∈ wA, w.before ([.ref h_t, .int p0] : List Value).toArray s = true := hta_of hts
  have hown : s.vm.findClass RX4 = some m.cls := findClass_of_methodNamed B.named
  have hlocks := B.notSynchronized
  subst hsz
  have hD := hD0.self (sz := s.heap.size)
  generalize hAe : va_A [(h_t, .inr (4, [.ref h_t_tape, .ref h_t_told, .ref h_t_causes, .int t_refused, .int t_place, .int t_cannotBe]))] s.heap.size = A at hD ⊢
  have hA : ∀ q : Nat, s.heap.size ≤ q → A q := fun q h => by rw [← hAe]; exact Or.inr h
  have hS : va_S A s.heap s.heap [] := va_S.rf
  have hl := lv_entry ([.ref h_t, .int p0]) (n := 2) (Nat.le_of_ble_eq_true rfl)
  rw [lg_entry_eq]
  generalize (lg_sl ([.ref h_t, .int p0]) ++ List.replicate (2 - (lg_sl ([.ref h_t, .int p0])).length) Slot.unset).toArray = ls at hl ⊢
  have hl : lv_has ls 2 [(0, .ref h_t), (1, .int p0)] := hl
  have hinX4 : ∀ w ∈ wsX40, w ∈ wsX4_noteCannotBe := hin_of in_X4
  have h := hF
  unfold F_X4_noteCannotBe at h
  refine lv_aload_n hx hb dX4_noteCannotBe_0 rfl (lv_at hl 0 rfl) ?_
  refine va_get (D := G) (ci := 4) (v := .int t_cannotBe) (C := RX4) (T := TX4) (N := 6) hx hb hts hinX4 hown hK hP 0 rfl rfl 5 (by decide) (hta _ mw_190) (fun _ h9 => h9) rfl dX4_noteCannotBe_1 ?_
  refine lv_iconst (v := (-1 : Int32)) hx hb dX4_noteCannotBe_4 (by decide) ?_
  refine lv_icmp_ne (tgt := 13) hx hb dX4_noteCannotBe_5 (by decide) (fun c1 => ?_) (fun c1 => ?_)
  · have h := it_n h c1
    have h9 := Option.some.inj h
    have e9 : t_cannotBe = w0 := congrArg (fun z9 => z9) h9
    rw [← e9]
    exact k_vret hx hb hr hlocks hP hS dX4_noteCannotBe_13
  have h := it_p h c1
  refine lv_aload_n hx hb dX4_noteCannotBe_8 rfl (lv_at hl 0 rfl) ?_
  refine lv_iload_n hx hb dX4_noteCannotBe_9 rfl (lv_at hl 1 rfl) ?_
  refine va_put (D := G) (ci := 4) (v := .int p0) (ty := .int) (C := RX4) (T := TX4) (N := 6) hx hb hts hinX4 tyX4 tyX4_ok nmX4 hown hK hP hD hS 0 rfl rfl 5 (by decide) (hta _ mw_190) (fun _ h9 => h9) rfl (by decide +kernel) rfl rfl (Nat.le_of_ble_eq_true rfl) dX4_noteCannotBe_10 (fun H locs hP hD hS => ?_)
  have hP : va_P G vwCl [(h_t, .inr (4, [.ref h_t_tape, .ref h_t_told, .ref h_t_causes, .int t_refused, .int t_place, .int p0]))] H := hP
  have hD : va_D A [(h_t, .inr (4, [.ref h_t_tape, .ref h_t_told, .ref h_t_causes, .int t_refused, .int t_place, .int p0]))] := hD
  have h9 := Option.some.inj h
  have e9 : p0 = w0 := congrArg (fun z9 => z9) h9
  rw [← e9]
  exact k_vret hx hb hr hlocks hP hS dX4_noteCannotBe_13

/-! X7_isFigure -/
set_option maxHeartbeats 4000000 in
set_option maxRecDepth 100000 in
theorem c_X7_isFigure (l : Launch) (G : va_G) (cI cJ cD cH : ClassId) (sz : Nat) (h_t : Nat) (h_t_bytes : Nat) (t_size : Int32) (a_t_bytes : Nat → Int32) (p0 : Int32) (r0 : Int32) (hF : F_X7_isFigure t_size a_t_bytes p0 = some r0) : Met l yX7_isFigure wsX7_isFigure ({ frames := 1, cells := 0, slots := 0, locals := 21 }) (k_pre G (k_T cI cJ cD cH) [(h_t, .inr (6, [.ref h_t_bytes, .int t_size])), (h_t_bytes, .inl (cI, 60, .inl a_t_bytes))] sz [.ref h_t, .int p0]) (va_Qi (fun r (_ : Unit) => r = r0 ∧ narrow .boolean (.int r0) = .int r0) (fun _ t => va_P G vwCl [(h_t, .inr (6, [.ref h_t_bytes, .int t_size])), (h_t_bytes, .inl (cI, 60, .inl a_t_bytes))] t.heap) (va_A [(h_t, .inr (6, [.ref h_t_bytes, .int t_size])), (h_t_bytes, .inl (cI, 60, .inl a_t_bytes))] sz)) 0 0 (va_A [(h_t, .inr (6, [.ref h_t_bytes, .int t_size])), (h_t_bytes, .inl (cI, 60, .inl a_t_bytes))] sz) := by
  refine Met.ofW (cc := cX7_isFigure) (maxL := 3) (ret := (some .boolean)) (by decide) rfl ?_
  intro p e s m args below meth c s₁ B hml hv
  obtain ⟨rfl, hsz, hP, hK, hD0⟩ := hv
  have hx := B.exec
  have hb := B.bytes
  have hr := B.returns
  have hts := atoms_spec (ws := wsX7_isFigure) B.pre
  have hta : ∀ w ∈ wA, w.before ([.ref h_t, .int p0] : List Value).toArray s = true := hta_of hts
  have hown : s.vm.findClass RX7 = some m.cls := findClass_of_methodNamed B.named
  have hlocks := B.notSynchronized
  subst hsz
  have hD := hD0.self (sz := s.heap.size)
  generalize hAe : va_A [(h_t, .inr (6, [.ref h_t_bytes, .int t_size])), (h_t_bytes, .inl (cI, 60, .inl a_t_bytes))] s.heap.size = A at hD ⊢
  have hA : ∀ q : Nat, s.heap.size ≤ q → A q := fun q h => by rw [← hAe]; exact Or.inr h
  have hS : va_S A s.heap s.heap [] := va_S.rf
  have hl := lv_entry ([.ref h_t, .int p0]) (n := 3) (Nat.le_of_ble_eq_true rfl)
  rw [lg_entry_eq]
  generalize (lg_sl ([.ref h_t, .int p0]) ++ List.replicate (3 - (lg_sl ([.ref h_t, .int p0])).length) Slot.unset).toArray = ls at hl ⊢
  have hl : lv_has ls 3 [(0, .ref h_t), (1, .int p0)] := hl
  have h := hF
  unfold F_X7_isFigure at h
  refine lv_aload_n hx hb dX7_isFigure_0 rfl (lv_at hl 0 rfl) ?_
  refine lv_iload_n hx hb dX7_isFigure_1 rfl (lv_at hl 1 rfl) ?_
  obtain ⟨x1, hx1, h⟩ := bd_e h
  try dsimp only at h
  refine k_ViU (n := 1) (As := [.int p0]) (rest := []) hx hb hml hown hts (c_X7_byteAt l G cI cJ cD cH s.heap.size h_t h_t_bytes t_size a_t_bytes p0 x1 hx1) gX7_isFigure_X7_byteAt rfl rfl rfl (by decide +kernel) ⟨by first | exact Nat.le_of_ble_eq_true rfl | (simp only [headSpec]; omega), by first | exact Nat.le_of_ble_eq_true rfl | (simp only [headSpec]; omega)⟩ hK hP hD hS hA [0, 1] (by decide) rfl (ci := 6) rfl rfl rfl rfl rfl hl.1 (Nat.le_of_ble_eq_true rfl) dX7_isFigure_2 ⟨Nat.zero_le _, Nat.zero_le _⟩ (fun hp1 H locs hP hS => ?_)
  refine lv_istore_n (lv' := [(2, .int x1), (0, .ref h_t), (1, .int p0)]) hx hb dX7_isFigure_5 rfl hl (by decide) rfl (fun ls hl => ?_)
  refine lv_iload_n hx hb dX7_isFigure_6 rfl (lv_at hl 0 rfl) ?_
  refine lv_bipush (v := (48 : Int32)) hx hb dX7_isFigure_7 (by decide) ?_
  refine lv_icmp_lt (tgt := 22) hx hb dX7_isFigure_9 (by decide) (fun c2 => ?_) (fun c2 => ?_)
  · have h := it_p h c2
    refine lv_iconst (v := (0 : Int32)) hx hb dX7_isFigure_22 (by decide) ?_
    have h9 := Option.some.inj h
    have e9 : (0 : Int32) = r0 := congrArg (fun z9 => z9) h9
    rw [← e9]
    exact k_zret hx hb hr hlocks hP hS rfl rfl dX7_isFigure_23
  have h := it_n h c2
  refine lv_iload_n hx hb dX7_isFigure_12 rfl (lv_at hl 0 rfl) ?_
  refine lv_bipush (v := (57 : Int32)) hx hb dX7_isFigure_13 (by decide) ?_
  refine lv_icmp_gt (tgt := 22) hx hb dX7_isFigure_15 (by decide) (fun c3 => ?_) (fun c3 => ?_)
  · have h := it_p h c3
    refine lv_iconst (v := (0 : Int32)) hx hb dX7_isFigure_22 (by decide) ?_
    have h9 := Option.some.inj h
    have e9 : (0 : Int32) = r0 := congrArg (fun z9 => z9) h9
    rw [← e9]
    exact k_zret hx hb hr hlocks hP hS rfl rfl dX7_isFigure_23
  have h := it_n h c3
  refine lv_iconst (v := (1 : Int32)) hx hb dX7_isFigure_18 (by decide) ?_
  refine lv_goto (tgt := 23) hx hb dX7_isFigure_19 (by decide) ?_
  have h9 := Option.some.inj h
  have e9 : (1 : Int32) = r0 := congrArg (fun z9 => z9) h9
  rw [← e9]
  exact k_zret hx hb hr hlocks hP hS rfl rfl dX7_isFigure_23

/-! X7_figureAt -/
set_option maxHeartbeats 4000000 in
set_option maxRecDepth 100000 in
theorem c_X7_figureAt (l : Launch) (G : va_G) (cI cJ cD cH : ClassId) (sz : Nat) (h_t : Nat) (h_t_bytes : Nat) (t_size : Int32) (a_t_bytes : Nat → Int32) (p0 : Int32) (r0 : Int32) (hF : F_X7_figureAt t_size a_t_bytes p0 = some r0) : Met l yX7_figureAt wsX7_figureAt ({ frames := 1, cells := 0, slots := 0, locals := 21 }) (k_pre G (k_T cI cJ cD cH) [(h_t, .inr (6, [.ref h_t_bytes, .int t_size])), (h_t_bytes, .inl (cI, 60, .inl a_t_bytes))] sz [.ref h_t, .int p0]) (va_Qi (fun r (_ : Unit) => r = r0 ∧ True) (fun _ t => va_P G vwCl [(h_t, .inr (6, [.ref h_t_bytes, .int t_size])), (h_t_bytes, .inl (cI, 60, .inl a_t_bytes))] t.heap) (va_A [(h_t, .inr (6, [.ref h_t_bytes, .int t_size])), (h_t_bytes, .inl (cI, 60, .inl a_t_bytes))] sz)) 0 0 (va_A [(h_t, .inr (6, [.ref h_t_bytes, .int t_size])), (h_t_bytes, .inl (cI, 60, .inl a_t_bytes))] sz) := by
  refine Met.ofW (cc := cX7_figureAt) (maxL := 2) (ret := (some .int)) (by decide) rfl ?_
  intro p e s m args below meth c s₁ B hml hv
  obtain ⟨rfl, hsz, hP, hK, hD0⟩ := hv
  have hx := B.exec
  have hb := B.bytes
  have hr := B.returns
  have hts := atoms_spec (ws := wsX7_figureAt) B.pre
  have hta : ∀ w ∈ wA, w.before ([.ref h_t, .int p0] : List Value).toArray s = true := hta_of hts
  have hown : s.vm.findClass RX7 = some m.cls := findClass_of_methodNamed B.named
  have hlocks := B.notSynchronized
  subst hsz
  have hD := hD0.self (sz := s.heap.size)
  generalize hAe : va_A [(h_t, .inr (6, [.ref h_t_bytes, .int t_size])), (h_t_bytes, .inl (cI, 60, .inl a_t_bytes))] s.heap.size = A at hD ⊢
  have hA : ∀ q : Nat, s.heap.size ≤ q → A q := fun q h => by rw [← hAe]; exact Or.inr h
  have hS : va_S A s.heap s.heap [] := va_S.rf
  have hl := lv_entry ([.ref h_t, .int p0]) (n := 2) (Nat.le_of_ble_eq_true rfl)
  rw [lg_entry_eq]
  generalize (lg_sl ([.ref h_t, .int p0]) ++ List.replicate (2 - (lg_sl ([.ref h_t, .int p0])).length) Slot.unset).toArray = ls at hl ⊢
  have hl : lv_has ls 2 [(0, .ref h_t), (1, .int p0)] := hl
  have h := hF
  unfold F_X7_figureAt at h
  refine lv_aload_n hx hb dX7_figureAt_0 rfl (lv_at hl 0 rfl) ?_
  refine lv_iload_n hx hb dX7_figureAt_1 rfl (lv_at hl 1 rfl) ?_
  obtain ⟨x1, hx1, h⟩ := bd_e h
  try dsimp only at h
  refine k_ViU (n := 1) (As := [.int p0]) (rest := []) hx hb hml hown hts (c_X7_byteAt l G cI cJ cD cH s.heap.size h_t h_t_bytes t_size a_t_bytes p0 x1 hx1) gX7_figureAt_X7_byteAt rfl rfl rfl (by decide +kernel) ⟨by first | exact Nat.le_of_ble_eq_true rfl | (simp only [headSpec]; omega), by first | exact Nat.le_of_ble_eq_true rfl | (simp only [headSpec]; omega)⟩ hK hP hD hS hA [0, 1] (by decide) rfl (ci := 6) rfl rfl rfl rfl rfl hl.1 (Nat.le_of_ble_eq_true rfl) dX7_figureAt_2 ⟨Nat.zero_le _, Nat.zero_le _⟩ (fun hp1 H locs hP hS => ?_)
  refine lv_bipush (v := (48 : Int32)) hx hb dX7_figureAt_5 (by decide) ?_
  refine lv_isub hx hb dX7_figureAt_7 ?_
  have h9 := Option.some.inj h
  have e9 : (x1 - (48 : Int32)) = r0 := congrArg (fun z9 => z9) h9
  rw [← e9]
  exact k_iret hx hb hr hlocks hP hS rfl dX7_figureAt_8

/-! X4_readGenus -/
set_option maxHeartbeats 4000000 in
set_option maxRecDepth 100000 in
theorem c_X4_readGenus (l : Launch) (G : va_G) (cI cJ cD cH : ClassId) (sz : Nat) (h_t : Nat) (h_t_tape : Nat) (h_t_tape_bytes : Nat) (h_t_told : Nat) (h_t_causes : Nat) (h_t_told_powers : Nat) (t_refused : Int32) (t_place : Int32) (t_cannotBe : Int32) (t_tape_size : Int32) (a_t_tape_bytes : Nat → Int32) (t_told_genus : Int32) (t_told_size : Int32) (t_told_limit : Int32) (t_told_tree : Int64) (r0 : Int32) (w0 : Int32) (w1 : Int32) (w2 : Int32) (hF : F_X4_readGenus t_place t_cannotBe t_tape_size a_t_tape_bytes t_told_genus = some (r0, w0, w1, w2)) : Met l yX4_readGenus wsX4_readGenus ({ frames := 2, cells := 0, slots := 0, locals := 43 }) (k_pre G (k_T cI cJ cD cH) [(h_t, .inr (4, [.ref h_t_tape, .ref h_t_told, .ref h_t_causes, .int t_refused, .int t_place, .int t_cannotBe])), (h_t_tape, .inr (6, [.ref h_t_tape_bytes, .int t_tape_size])), (h_t_tape_bytes, .inl (cI, 60, .inl a_t_tape_bytes)), (h_t_told, .inr (1, [.int t_told_genus, .int t_told_size, .ref h_t_told_powers, .int t_told_limit, .long t_told_tree]))] sz [.ref h_t]) (va_Qi (fun r (_ : Unit) => r = r0 ∧ narrow .boolean (.int r0) = .int r0) (fun _ t => va_P G vwCl [(h_t, .inr (4, [.ref h_t_tape, .ref h_t_told, .ref h_t_causes, .int t_refused, .int w0, .int w1])), (h_t_tape, .inr (6, [.ref h_t_tape_bytes, .int t_tape_size])), (h_t_tape_bytes, .inl (cI, 60, .inl a_t_tape_bytes)), (h_t_told, .inr (1, [.int w2, .int t_told_size, .ref h_t_told_powers, .int t_told_limit, .long t_told_tree]))] t.heap) (va_A [(h_t, .inr (4, [.ref h_t_tape, .ref h_t_told, .ref h_t_causes, .int t_refused, .int t_place, .int t_cannotBe])), (h_t_tape, .inr (6, [.ref h_t_tape_bytes, .int t_tape_size])), (h_t_tape_bytes, .inl (cI, 60, .inl a_t_tape_bytes)), (h_t_told, .inr (1, [.int t_told_genus, .int t_told_size, .ref h_t_told_powers, .int t_told_limit, .long t_told_tree]))] sz)) 0 0 (va_A [(h_t, .inr (4, [.ref h_t_tape, .ref h_t_told, .ref h_t_causes, .int t_refused, .int t_place, .int t_cannotBe])), (h_t_tape, .inr (6, [.ref h_t_tape_bytes, .int t_tape_size])), (h_t_tape_bytes, .inl (cI, 60, .inl a_t_tape_bytes)), (h_t_told, .inr (1, [.int t_told_genus, .int t_told_size, .ref h_t_told_powers, .int t_told_limit, .long t_told_tree]))] sz) := by
  refine Met.ofW (cc := cX4_readGenus) (maxL := 1) (ret := (some .boolean)) (by decide) rfl ?_
  intro p e s m args below meth c s₁ B hml hv
  obtain ⟨rfl, hsz, hP, hK, hD0⟩ := hv
  have hx := B.exec
  have hb := B.bytes
  have hr := B.returns
  have hts := atoms_spec (ws := wsX4_readGenus) B.pre
  have hta : ∀ w ∈ wA, w.before ([.ref h_t] : List Value).toArray s = true := hta_of hts
  have hown : s.vm.findClass RX4 = some m.cls := findClass_of_methodNamed B.named
  have hlocks := B.notSynchronized
  subst hsz
  have hD := hD0.self (sz := s.heap.size)
  generalize hAe : va_A [(h_t, .inr (4, [.ref h_t_tape, .ref h_t_told, .ref h_t_causes, .int t_refused, .int t_place, .int t_cannotBe])), (h_t_tape, .inr (6, [.ref h_t_tape_bytes, .int t_tape_size])), (h_t_tape_bytes, .inl (cI, 60, .inl a_t_tape_bytes)), (h_t_told, .inr (1, [.int t_told_genus, .int t_told_size, .ref h_t_told_powers, .int t_told_limit, .long t_told_tree]))] s.heap.size = A at hD ⊢
  have hA : ∀ q : Nat, s.heap.size ≤ q → A q := fun q h => by rw [← hAe]; exact Or.inr h
  have hS : va_S A s.heap s.heap [] := va_S.rf
  have hl := lv_entry ([.ref h_t]) (n := 1) (Nat.le_of_ble_eq_true rfl)
  rw [lg_entry_eq]
  generalize (lg_sl ([.ref h_t]) ++ List.replicate (1 - (lg_sl ([.ref h_t])).length) Slot.unset).toArray = ls at hl ⊢
  have hl : lv_has ls 1 [(0, .ref h_t)] := hl
  have hinX1 : ∀ w ∈ wsX10, w ∈ wsX4_readGenus := hin_of in_X1
  have hinX4 : ∀ w ∈ wsX40, w ∈ wsX4_readGenus := hin_of in_X4
  have h := hF
  unfold F_X4_readGenus at h
  refine lv_aload_n hx hb dX4_readGenus_0 rfl (lv_at hl 0 rfl) ?_
  refine va_get (D := G) (ci := 4) (v := .ref h_t_tape) (C := RX4) (T := TX4) (N := 6) hx hb hts hinX4 hown hK hP 0 rfl rfl 0 (by decide) (hta _ mw_177) (fun _ h9 => h9) rfl dX4_readGenus_1 ?_
  refine lv_aload_n hx hb dX4_readGenus_4 rfl (lv_at hl 0 rfl) ?_
  refine va_get (D := G) (ci := 4) (v := .int t_place) (C := RX4) (T := TX4) (N := 6) hx hb hts hinX4 hown hK hP 0 rfl rfl 4 (by decide) (hta _ mw_189) (fun _ h9 => h9) rfl dX4_readGenus_5 ?_
  obtain ⟨x1, hx1, h⟩ := bd_e h
  try dsimp only at h
  refine k_ViU (n := 1) (As := [.int t_place]) (rest := []) hx hb hml hown hts (c_X7_isFigure l G cI cJ cD cH s.heap.size h_t_tape h_t_tape_bytes t_tape_size a_t_tape_bytes t_place x1 hx1) gX4_readGenus_X7_isFigure rfl rfl rfl (by decide +kernel) ⟨by first | exact Nat.le_of_ble_eq_true rfl | (simp only [headSpec]; omega), by first | exact Nat.le_of_ble_eq_true rfl | (simp only [headSpec]; omega)⟩ hK hP hD hS hA [1, 2] (by decide) rfl (ci := 6) rfl rfl rfl rfl rfl hl.1 (Nat.le_of_ble_eq_true rfl) dX4_readGenus_8 ⟨Nat.zero_le _, Nat.zero_le _⟩ (fun hp1 H locs hP hS => ?_)
  refine lv_if_ne (tgt := 16) hx hb dX4_readGenus_11 (by decide) (fun c2 => ?_) (fun c2 => ?_)
  rotate_left
  · have h := it_p h c2
    refine lv_iconst (v := (0 : Int32)) hx hb dX4_readGenus_14 (by decide) ?_
    have h9 := Option.some.inj h
    have e9 : (0 : Int32) = r0 := congrArg (fun z9 => z9.1) h9
    rw [← e9]
    have e9 : t_place = w0 := congrArg (fun z9 => z9.2.1) h9
    rw [← e9]
    have e9 : t_cannotBe = w1 := congrArg (fun z9 => z9.2.2.1) h9
    rw [← e9]
    have e9 : t_told_genus = w2 := congrArg (fun z9 => z9.2.2.2) h9
    rw [← e9]
    exact k_zret hx hb hr hlocks hP hS rfl rfl dX4_readGenus_15
  have h := it_n h c2
  refine lv_aload_n hx hb dX4_readGenus_16 rfl (lv_at hl 0 rfl) ?_
  refine va_get (D := G) (ci := 4) (v := .ref h_t_told) (C := RX4) (T := TX4) (N := 6) hx hb hts hinX4 hown hK hP 0 rfl rfl 1 (by decide) (hta _ mw_179) (fun _ h9 => h9) rfl dX4_readGenus_17 ?_
  refine lv_aload_n hx hb dX4_readGenus_20 rfl (lv_at hl 0 rfl) ?_
  refine va_get (D := G) (ci := 4) (v := .ref h_t_tape) (C := RX4) (T := TX4) (N := 6) hx hb hts hinX4 hown hK hP 0 rfl rfl 0 (by decide) (hta _ mw_177) (fun _ h9 => h9) rfl dX4_readGenus_21 ?_
  refine lv_aload_n hx hb dX4_readGenus_24 rfl (lv_at hl 0 rfl) ?_
  refine va_get (D := G) (ci := 4) (v := .int t_place) (C := RX4) (T := TX4) (N := 6) hx hb hts hinX4 hown hK hP 0 rfl rfl 4 (by decide) (hta _ mw_189) (fun _ h9 => h9) rfl dX4_readGenus_25 ?_
  obtain ⟨x3, hx3, h⟩ := bd_e h
  try dsimp only at h
  refine k_ViU (n := 1) (As := [.int t_place]) (rest := [.ref h_t_told]) hx hb hml hown hts (c_X7_figureAt l G cI cJ cD cH H.size h_t_tape h_t_tape_bytes t_tape_size a_t_tape_bytes t_place x3 hx3) gX4_readGenus_X7_figureAt rfl rfl rfl (by decide +kernel) ⟨by first | exact Nat.le_of_ble_eq_true rfl | (simp only [headSpec]; omega), by first | exact Nat.le_of_ble_eq_true rfl | (simp only [headSpec]; omega)⟩ hK hP hD hS hA [1, 2] (by decide) rfl (ci := 6) rfl rfl rfl rfl rfl hl.1 (Nat.le_of_ble_eq_true rfl) dX4_readGenus_28 ⟨Nat.zero_le _, Nat.zero_le _⟩ (fun hp3 H locs hP hS => ?_)
  refine va_put (D := G) (ci := 1) (v := .int x3) (ty := .int) (C := RX1) (T := TX1) (N := 5) hx hb hts hinX1 tyX1 tyX1_ok nmX1 hown hK hP hD hS 3 rfl rfl 0 (by decide) (hta _ mw_203) (fun _ h9 => h9) rfl (by decide +kernel) rfl rfl (Nat.le_of_ble_eq_true rfl) dX4_readGenus_31 (fun H locs hP hD hS => ?_)
  have hP : va_P G vwCl [(h_t, .inr (4, [.ref h_t_tape, .ref h_t_told, .ref h_t_causes, .int t_refused, .int t_place, .int t_cannotBe])), (h_t_tape, .inr (6, [.ref h_t_tape_bytes, .int t_tape_size])), (h_t_tape_bytes, .inl (cI, 60, .inl a_t_tape_bytes)), (h_t_told, .inr (1, [.int x3, .int t_told_size, .ref h_t_told_powers, .int t_told_limit, .long t_told_tree]))] H := hP
  have hD : va_D A [(h_t, .inr (4, [.ref h_t_tape, .ref h_t_told, .ref h_t_causes, .int t_refused, .int t_place, .int t_cannotBe])), (h_t_tape, .inr (6, [.ref h_t_tape_bytes, .int t_tape_size])), (h_t_tape_bytes, .inl (cI, 60, .inl a_t_tape_bytes)), (h_t_told, .inr (1, [.int x3, .int t_told_size, .ref h_t_told_powers, .int t_told_limit, .long t_told_tree]))] := hD
  refine lv_aload_n hx hb dX4_readGenus_34 rfl (lv_at hl 0 rfl) ?_
  refine va_get (D := G) (ci := 4) (v := .ref h_t_told) (C := RX4) (T := TX4) (N := 6) hx hb hts hinX4 hown hK hP 0 rfl rfl 1 (by decide) (hta _ mw_179) (fun _ h9 => h9) rfl dX4_readGenus_35 ?_
  refine va_get (D := G) (ci := 1) (v := .int x3) (C := RX1) (T := TX1) (N := 5) hx hb hts hinX1 hown hK hP 3 rfl rfl 0 (by decide) (hta _ mw_203) (fun _ h9 => h9) rfl dX4_readGenus_38 ?_
  refine lv_iconst (v := (2 : Int32)) hx hb dX4_readGenus_41 (by decide) ?_
  refine lv_icmp_le (tgt := 53) hx hb dX4_readGenus_42 (by decide) (fun c4 => ?_) (fun c4 => ?_)
  · have h := it_p h c4
    refine lv_aload_n hx hb dX4_readGenus_53 rfl (lv_at hl 0 rfl) ?_
    refine lv_dup hx hb dX4_readGenus_54 rfl ?_
    refine va_get (D := G) (ci := 4) (v := .int t_place) (C := RX4) (T := TX4) (N := 6) hx hb hts hinX4 hown hK hP 0 rfl rfl 4 (by decide) (hta _ mw_189) (fun _ h9 => h9) rfl dX4_readGenus_55 ?_
    refine lv_iconst (v := (1 : Int32)) hx hb dX4_readGenus_58 (by decide) ?_
    refine lv_iadd hx hb dX4_readGenus_59 ?_
    refine va_put (D := G) (ci := 4) (v := .int (t_place + (1 : Int32))) (ty := .int) (C := RX4) (T := TX4) (N := 6) hx hb hts hinX4 tyX4 tyX4_ok nmX4 hown hK hP hD hS 0 rfl rfl 4 (by decide) (hta _ mw_189) (fun _ h9 => h9) rfl (by decide +kernel) rfl rfl (Nat.le_of_ble_eq_true rfl) dX4_readGenus_60 (fun H locs hP hD hS => ?_)
    have hP : va_P G vwCl [(h_t, .inr (4, [.ref h_t_tape, .ref h_t_told, .ref h_t_causes, .int t_refused, .int (t_place + (1 : Int32)), .int t_cannotBe])), (h_t_tape, .inr (6, [.ref h_t_tape_bytes, .int t_tape_size])), (h_t_tape_bytes, .inl (cI, 60, .inl a_t_tape_bytes)), (h_t_told, .inr (1, [.int x3, .int t_told_size, .ref h_t_told_powers, .int t_told_limit, .long t_told_tree]))] H := hP
    have hD : va_D A [(h_t, .inr (4, [.ref h_t_tape, .ref h_t_told, .ref h_t_causes, .int t_refused, .int (t_place + (1 : Int32)), .int t_cannotBe])), (h_t_tape, .inr (6, [.ref h_t_tape_bytes, .int t_tape_size])), (h_t_tape_bytes, .inl (cI, 60, .inl a_t_tape_bytes)), (h_t_told, .inr (1, [.int x3, .int t_told_size, .ref h_t_told_powers, .int t_told_limit, .long t_told_tree]))] := hD
    refine lv_iconst (v := (1 : Int32)) hx hb dX4_readGenus_63 (by decide) ?_
    have h9 := Option.some.inj h
    have e9 : (1 : Int32) = r0 := congrArg (fun z9 => z9.1) h9
    rw [← e9]
    have e9 : (t_place + (1 : Int32)) = w0 := congrArg (fun z9 => z9.2.1) h9
    rw [← e9]
    have e9 : t_cannotBe = w1 := congrArg (fun z9 => z9.2.2.1) h9
    rw [← e9]
    have e9 : x3 = w2 := congrArg (fun z9 => z9.2.2.2) h9
    rw [← e9]
    exact k_zret hx hb hr hlocks hP hS rfl rfl dX4_readGenus_64
  have h := it_n h c4
  refine lv_aload_n hx hb dX4_readGenus_45 rfl (lv_at hl 0 rfl) ?_
  refine lv_aload_n hx hb dX4_readGenus_46 rfl (lv_at hl 0 rfl) ?_
  refine va_get (D := G) (ci := 4) (v := .int t_place) (C := RX4) (T := TX4) (N := 6) hx hb hts hinX4 hown hK hP 0 rfl rfl 4 (by decide) (hta _ mw_189) (fun _ h9 => h9) rfl dX4_readGenus_47 ?_
  obtain ⟨x5, hx5, h⟩ := bd_e h
  try dsimp only at h
  refine k_VvM (n := 1) (As := [.int t_place]) (rest := []) hx hb hml hown hts (c_X4_noteCannotBe l G cI cJ cD cH H.size h_t h_t_tape h_t_told h_t_causes t_refused t_place t_cannotBe t_place x5 hx5) gX4_readGenus_X4_noteCannotBe rfl rfl rfl (by decide +kernel) ⟨by first | exact Nat.le_of_ble_eq_true rfl | (simp only [headSpec]; omega), by first | exact Nat.le_of_ble_eq_true rfl | (simp only [headSpec]; omega)⟩ hK hP hD hS hA [0] (by decide) rfl rfl (ci := 4) rfl rfl rfl rfl rfl hl.1 (Nat.le_of_ble_eq_true rfl) dX4_readGenus_50 ⟨Nat.zero_le _, Nat.zero_le _⟩ [(h_t, .inr (4, [.ref h_t_tape, .ref h_t_told, .ref h_t_causes, .int t_refused, .int t_place, .int x5])), (h_t_tape, .inr (6, [.ref h_t_tape_bytes, .int t_tape_size])), (h_t_tape_bytes, .inl (cI, 60, .inl a_t_tape_bytes)), (h_t_told, .inr (1, [.int x3, .int t_told_size, .ref h_t_told_powers, .int t_told_limit, .long t_told_tree]))] [1, 0, 0, 0] 1 (by decide +kernel) rfl rfl rfl (fun hp5 H locs hP hD hS => ?_)
  refine lv_aload_n hx hb dX4_readGenus_53 rfl (lv_at hl 0 rfl) ?_
  refine lv_dup hx hb dX4_readGenus_54 rfl ?_
  refine va_get (D := G) (ci := 4) (v := .int t_place) (C := RX4) (T := TX4) (N := 6) hx hb hts hinX4 hown hK hP 0 rfl rfl 4 (by decide) (hta _ mw_189) (fun _ h9 => h9) rfl dX4_readGenus_55 ?_
  refine lv_iconst (v := (1 : Int32)) hx hb dX4_readGenus_58 (by decide) ?_
  refine lv_iadd hx hb dX4_readGenus_59 ?_
  refine va_put (D := G) (ci := 4) (v := .int (t_place + (1 : Int32))) (ty := .int) (C := RX4) (T := TX4) (N := 6) hx hb hts hinX4 tyX4 tyX4_ok nmX4 hown hK hP hD hS 0 rfl rfl 4 (by decide) (hta _ mw_189) (fun _ h9 => h9) rfl (by decide +kernel) rfl rfl (Nat.le_of_ble_eq_true rfl) dX4_readGenus_60 (fun H locs hP hD hS => ?_)
  have hP : va_P G vwCl [(h_t, .inr (4, [.ref h_t_tape, .ref h_t_told, .ref h_t_causes, .int t_refused, .int (t_place + (1 : Int32)), .int x5])), (h_t_tape, .inr (6, [.ref h_t_tape_bytes, .int t_tape_size])), (h_t_tape_bytes, .inl (cI, 60, .inl a_t_tape_bytes)), (h_t_told, .inr (1, [.int x3, .int t_told_size, .ref h_t_told_powers, .int t_told_limit, .long t_told_tree]))] H := hP
  have hD : va_D A [(h_t, .inr (4, [.ref h_t_tape, .ref h_t_told, .ref h_t_causes, .int t_refused, .int (t_place + (1 : Int32)), .int x5])), (h_t_tape, .inr (6, [.ref h_t_tape_bytes, .int t_tape_size])), (h_t_tape_bytes, .inl (cI, 60, .inl a_t_tape_bytes)), (h_t_told, .inr (1, [.int x3, .int t_told_size, .ref h_t_told_powers, .int t_told_limit, .long t_told_tree]))] := hD
  refine lv_iconst (v := (1 : Int32)) hx hb dX4_readGenus_63 (by decide) ?_
  have h9 := Option.some.inj h
  have e9 : (1 : Int32) = r0 := congrArg (fun z9 => z9.1) h9
  rw [← e9]
  have e9 : (t_place + (1 : Int32)) = w0 := congrArg (fun z9 => z9.2.1) h9
  rw [← e9]
  have e9 : x5 = w1 := congrArg (fun z9 => z9.2.2.1) h9
  rw [← e9]
  have e9 : x3 = w2 := congrArg (fun z9 => z9.2.2.2) h9
  rw [← e9]
  exact k_zret hx hb hr hlocks hP hS rfl rfl dX4_readGenus_64

/-! X4_readPower -/
set_option maxHeartbeats 4000000 in
set_option maxRecDepth 100000 in
theorem tJ_X4_readPower_79 {l : Launch} {G : va_G} {cI cJ cD cH : ClassId} {h_t : Nat} {h_t_tape : Nat} {h_t_tape_bytes : Nat} {h_t_told : Nat} {h_t_told_powers : Nat} {h_t_causes : Nat} {t_refused : Int32} {t_tape_size : Int32} {a_t_tape_bytes : Nat → Int32} {t_told_genus : Int32} {t_told_size : Int32} {t_told_limit : Int32} {t_told_tree : Int64} {a_t_told_powers : Nat → Int32} {w0 : Nat → Int32} {w1 : Int32} {w2 : Int32} {w3 : Int32} {vJ68_0 : Int32} {vJ68_1 : Int32} {p : Program} {e : Env} {s : State} {m : MethodId} {below : List Frame} {meth : Method} {c : Code} {A : Nat → Prop} (hx : p.tables.exec = Jvm.exec) (hb : c.code = cX4_readPower) (hr : meth.sig.returnType = none) (hml : c.maxLocals = 3) (hts : ∀ w ∈ wsX4_readPower, w.before ([.ref h_t] : List Value).toArray s = true) (hown : s.vm.findClass RX4 = some m.cls) (hlocks : meth.locks = false) (hK : va_K G vwCl (k_T cI cJ cD cH) s) (hA : ∀ q : Nat, s.heap.size ≤ q → A q) : ∀  (vJ79_0 : Int32) (H : Heap) (locs : List Loc) (ls : Array Slot), va_P G vwCl [(h_t, .inr (4, [.ref h_t_tape, .ref h_t_told, .ref h_t_causes, .int t_refused, .int vJ68_0, .int vJ79_0])), (h_t_tape, .inr (6, [.ref h_t_tape_bytes, .int t_tape_size])), (h_t_tape_bytes, .inl (cI, 60, .inl a_t_tape_bytes)), (h_t_told, .inr (1, [.int t_told_genus, .int t_told_size, .ref h_t_told_powers, .int t_told_limit, .long t_told_tree])), (h_t_told_powers, .inl (cI, 8, .inl a_t_told_powers))] H → va_D A [(h_t, .inr (4, [.ref h_t_tape, .ref h_t_told, .ref h_t_causes, .int t_refused, .int vJ68_0, .int vJ79_0])), (h_t_tape, .inr (6, [.ref h_t_tape_bytes, .int t_tape_size])), (h_t_tape_bytes, .inl (cI, 60, .inl a_t_tape_bytes)), (h_t_told, .inr (1, [.int t_told_genus, .int t_told_size, .ref h_t_told_powers, .int t_told_limit, .long t_told_tree])), (h_t_told_powers, .inl (cI, 8, .inl a_t_told_powers))] → va_S A s.heap H locs → lv_has ls 3 [(0, .ref h_t), (2, .int vJ68_1)] → J_X4_readPower_79 t_told_size a_t_told_powers vJ68_0 vJ68_1 vJ79_0 = some (w0, w1, w2, w3) → W p l e (headSpec wsX4_readPower ({ frames := 2, cells := 0, slots := 0, locals := 43 })).room s m ([.ref h_t] : List Value).toArray below meth c H locs 0 0 (MQ below (va_Qv (fun (_ : Unit) => True) (fun _ t => va_P G vwCl [(h_t, .inr (4, [.ref h_t_tape, .ref h_t_told, .ref h_t_causes, .int t_refused, .int w1, .int w2])), (h_t_tape, .inr (6, [.ref h_t_tape_bytes, .int t_tape_size])), (h_t_tape_bytes, .inl (cI, 60, .inl a_t_tape_bytes)), (h_t_told, .inr (1, [.int t_told_genus, .int w3, .ref h_t_told_powers, .int t_told_limit, .long t_told_tree])), (h_t_told_powers, .inl (cI, 8, .inl w0))] t.heap) A) ([.ref h_t] : List Value).toArray s 0 0 A) (F0 m 79 ls []) := by
  have hta : ∀ w ∈ wA, w.before ([.ref h_t] : List Value).toArray s = true := hta_of hts
  have hinX4 : ∀ w ∈ wsX40, w ∈ wsX4_readPower := hin_of in_X4
  intro vJ79_0 H locs ls hP hD hS hl h
  unfold J_X4_readPower_79 at h
  refine lv_aload_n hx hb dX4_readPower_79 rfl (lv_at hl 0 rfl) ?_
  refine va_get (D := G) (ci := 4) (v := .ref h_t_told) (C := RX4) (T := TX4) (N := 6) hx hb hts hinX4 hown hK hP 0 rfl rfl 1 (by decide) (hta _ mw_179) (fun _ h9 => h9) rfl dX4_readPower_80 ?_
  refine lv_iload_n hx hb dX4_readPower_83 rfl (lv_at hl 1 rfl) ?_
  obtain ⟨x3, hx3, h⟩ := bd_e h
  try dsimp only at h
  refine k_VvM (n := 1) (As := [.int vJ68_1]) (rest := []) hx hb hml hown hts (c_X1_addMark l G cI cJ cD cH H.size h_t_told h_t_told_powers t_told_genus t_told_size t_told_limit t_told_tree a_t_told_powers vJ68_1 (x3.1) (x3.2) hx3) gX4_readPower_X1_addMark rfl rfl rfl (by decide +kernel) ⟨by first | exact Nat.le_of_ble_eq_true rfl | (simp only [headSpec]; omega), by first | exact Nat.le_of_ble_eq_true rfl | (simp only [headSpec]; omega)⟩ hK hP hD hS hA [3, 4] (by decide) rfl rfl (ci := 1) rfl rfl rfl rfl rfl hl.1 (Nat.le_of_ble_eq_true rfl) dX4_readPower_84 ⟨Nat.zero_le _, Nat.zero_le _⟩ [(h_t, .inr (4, [.ref h_t_tape, .ref h_t_told, .ref h_t_causes, .int t_refused, .int vJ68_0, .int vJ79_0])), (h_t_tape, .inr (6, [.ref h_t_tape_bytes, .int t_tape_size])), (h_t_tape_bytes, .inl (cI, 60, .inl a_t_tape_bytes)), (h_t_told, .inr (1, [.int t_told_genus, .int (x3.2), .ref h_t_told_powers, .int t_told_limit, .long t_told_tree])), (h_t_told_powers, .inl (cI, 8, .inl (x3.1)))] [0, 0, 0, 1, 2] 2 (by decide +kernel) rfl rfl rfl (fun hp3 H locs hP hD hS => ?_)
  have h9 := Option.some.inj h
  have e9 : (x3.1) = w0 := congrArg (fun z9 => z9.1) h9
  rw [← e9]
  have e9 : vJ68_0 = w1 := congrArg (fun z9 => z9.2.1) h9
  rw [← e9]
  have e9 : vJ79_0 = w2 := congrArg (fun z9 => z9.2.2.1) h9
  rw [← e9]
  have e9 : (x3.2) = w3 := congrArg (fun z9 => z9.2.2.2) h9
  rw [← e9]
  exact k_vret hx hb hr hlocks hP hS dX4_readPower_87
set_option maxHeartbeats 4000000 in
set_option maxRecDepth 100000 in
theorem tJ_X4_readPower_68 {l : Launch} {G : va_G} {cI cJ cD cH : ClassId} {h_t : Nat} {h_t_tape : Nat} {h_t_tape_bytes : Nat} {h_t_told : Nat} {h_t_told_powers : Nat} {h_t_causes : Nat} {t_refused : Int32} {t_place : Int32} {t_cannotBe : Int32} {t_tape_size : Int32} {a_t_tape_bytes : Nat → Int32} {t_told_genus : Int32} {t_told_size : Int32} {t_told_limit : Int32} {t_told_tree : Int64} {a_t_told_powers : Nat → Int32} {w0 : Nat → Int32} {w1 : Int32} {w2 : Int32} {w3 : Int32} {p : Program} {e : Env} {s : State} {m : MethodId} {below : List Frame} {meth : Method} {c : Code} {A : Nat → Prop} (hx : p.tables.exec = Jvm.exec) (hb : c.code = cX4_readPower) (hr : meth.sig.returnType = none) (hml : c.maxLocals = 3) (hts : ∀ w ∈ wsX4_readPower, w.before ([.ref h_t] : List Value).toArray s = true) (hown : s.vm.findClass RX4 = some m.cls) (hlocks : meth.locks = false) (hK : va_K G vwCl (k_T cI cJ cD cH) s) (hA : ∀ q : Nat, s.heap.size ≤ q → A q) : ∀  (vJ68_0 : Int32) (vJ68_1 : Int32) (H : Heap) (locs : List Loc) (ls : Array Slot), va_P G vwCl [(h_t, .inr (4, [.ref h_t_tape, .ref h_t_told, .ref h_t_causes, .int t_refused, .int vJ68_0, .int t_cannotBe])), (h_t_tape, .inr (6, [.ref h_t_tape_bytes, .int t_tape_size])), (h_t_tape_bytes, .inl (cI, 60, .inl a_t_tape_bytes)), (h_t_told, .inr (1, [.int t_told_genus, .int t_told_size, .ref h_t_told_powers, .int t_told_limit, .long t_told_tree])), (h_t_told_powers, .inl (cI, 8, .inl a_t_told_powers))] H → va_D A [(h_t, .inr (4, [.ref h_t_tape, .ref h_t_told, .ref h_t_causes, .int t_refused, .int vJ68_0, .int t_cannotBe])), (h_t_tape, .inr (6, [.ref h_t_tape_bytes, .int t_tape_size])), (h_t_tape_bytes, .inl (cI, 60, .inl a_t_tape_bytes)), (h_t_told, .inr (1, [.int t_told_genus, .int t_told_size, .ref h_t_told_powers, .int t_told_limit, .long t_told_tree])), (h_t_told_powers, .inl (cI, 8, .inl a_t_told_powers))] → va_S A s.heap H locs → lv_has ls 3 [(0, .ref h_t), (1, .int t_place), (2, .int vJ68_1)] → J_X4_readPower_68 t_place t_cannotBe t_told_size a_t_told_powers vJ68_0 vJ68_1 = some (w0, w1, w2, w3) → W p l e (headSpec wsX4_readPower ({ frames := 2, cells := 0, slots := 0, locals := 43 })).room s m ([.ref h_t] : List Value).toArray below meth c H locs 0 0 (MQ below (va_Qv (fun (_ : Unit) => True) (fun _ t => va_P G vwCl [(h_t, .inr (4, [.ref h_t_tape, .ref h_t_told, .ref h_t_causes, .int t_refused, .int w1, .int w2])), (h_t_tape, .inr (6, [.ref h_t_tape_bytes, .int t_tape_size])), (h_t_tape_bytes, .inl (cI, 60, .inl a_t_tape_bytes)), (h_t_told, .inr (1, [.int t_told_genus, .int w3, .ref h_t_told_powers, .int t_told_limit, .long t_told_tree])), (h_t_told_powers, .inl (cI, 8, .inl w0))] t.heap) A) ([.ref h_t] : List Value).toArray s 0 0 A) (F0 m 68 ls []) := by
  have hta : ∀ w ∈ wA, w.before ([.ref h_t] : List Value).toArray s = true := hta_of hts
  have hinX4 : ∀ w ∈ wsX40, w ∈ wsX4_readPower := hin_of in_X4
  intro vJ68_0 vJ68_1 H locs ls hP hD hS hl h
  unfold J_X4_readPower_68 at h
  refine lv_iload_n hx hb dX4_readPower_68 rfl (lv_at hl 2 rfl) ?_
  refine lv_bipush (v := (12 : Int32)) hx hb dX4_readPower_69 (by decide) ?_
  refine lv_icmp_le (tgt := 79) hx hb dX4_readPower_71 (by decide) (fun c4 => ?_) (fun c4 => ?_)
  · have h := it_p h c4
    exact tJ_X4_readPower_79 hx hb hr hml hts hown hlocks hK hA t_cannotBe _ _ _ hP hD hS (lv_sub hl [0, 2] rfl) h
  have h := it_n h c4
  refine lv_aload_n hx hb dX4_readPower_74 rfl (lv_at hl 0 rfl) ?_
  refine lv_iload_n hx hb dX4_readPower_75 rfl (lv_at hl 1 rfl) ?_
  obtain ⟨x5, hx5, h⟩ := bd_e h
  try dsimp only at h
  refine k_VvM (n := 1) (As := [.int t_place]) (rest := []) hx hb hml hown hts (c_X4_noteCannotBe l G cI cJ cD cH H.size h_t h_t_tape h_t_told h_t_causes t_refused vJ68_0 t_cannotBe t_place x5 hx5) gX4_readPower_X4_noteCannotBe rfl rfl rfl (by decide +kernel) ⟨by first | exact Nat.le_of_ble_eq_true rfl | (simp only [headSpec]; omega), by first | exact Nat.le_of_ble_eq_true rfl | (simp only [headSpec]; omega)⟩ hK hP hD hS hA [0] (by decide) rfl rfl (ci := 4) rfl rfl rfl rfl rfl hl.1 (Nat.le_of_ble_eq_true rfl) dX4_readPower_76 ⟨Nat.zero_le _, Nat.zero_le _⟩ [(h_t, .inr (4, [.ref h_t_tape, .ref h_t_told, .ref h_t_causes, .int t_refused, .int vJ68_0, .int x5])), (h_t_tape, .inr (6, [.ref h_t_tape_bytes, .int t_tape_size])), (h_t_tape_bytes, .inl (cI, 60, .inl a_t_tape_bytes)), (h_t_told, .inr (1, [.int t_told_genus, .int t_told_size, .ref h_t_told_powers, .int t_told_limit, .long t_told_tree])), (h_t_told_powers, .inl (cI, 8, .inl a_t_told_powers))] [1, 0, 0, 0, 0] 1 (by decide +kernel) rfl rfl rfl (fun hp5 H locs hP hD hS => ?_)
  exact tJ_X4_readPower_79 hx hb hr hml hts hown hlocks hK hA x5 _ _ _ hP hD hS (lv_sub hl [0, 2] rfl) h
set_option maxHeartbeats 4000000 in
set_option maxRecDepth 100000 in
theorem c_X4_readPower (l : Launch) (G : va_G) (cI cJ cD cH : ClassId) (sz : Nat) (h_t : Nat) (h_t_tape : Nat) (h_t_tape_bytes : Nat) (h_t_told : Nat) (h_t_told_powers : Nat) (h_t_causes : Nat) (t_refused : Int32) (t_place : Int32) (t_cannotBe : Int32) (t_tape_size : Int32) (a_t_tape_bytes : Nat → Int32) (t_told_genus : Int32) (t_told_size : Int32) (t_told_limit : Int32) (t_told_tree : Int64) (a_t_told_powers : Nat → Int32) (w0 : Nat → Int32) (w1 : Int32) (w2 : Int32) (w3 : Int32) (hF : F_X4_readPower t_place t_cannotBe t_tape_size a_t_tape_bytes t_told_size a_t_told_powers = some (w0, w1, w2, w3)) : Met l yX4_readPower wsX4_readPower ({ frames := 2, cells := 0, slots := 0, locals := 43 }) (k_pre G (k_T cI cJ cD cH) [(h_t, .inr (4, [.ref h_t_tape, .ref h_t_told, .ref h_t_causes, .int t_refused, .int t_place, .int t_cannotBe])), (h_t_tape, .inr (6, [.ref h_t_tape_bytes, .int t_tape_size])), (h_t_tape_bytes, .inl (cI, 60, .inl a_t_tape_bytes)), (h_t_told, .inr (1, [.int t_told_genus, .int t_told_size, .ref h_t_told_powers, .int t_told_limit, .long t_told_tree])), (h_t_told_powers, .inl (cI, 8, .inl a_t_told_powers))] sz [.ref h_t]) (va_Qv (fun (_ : Unit) => True) (fun _ t => va_P G vwCl [(h_t, .inr (4, [.ref h_t_tape, .ref h_t_told, .ref h_t_causes, .int t_refused, .int w1, .int w2])), (h_t_tape, .inr (6, [.ref h_t_tape_bytes, .int t_tape_size])), (h_t_tape_bytes, .inl (cI, 60, .inl a_t_tape_bytes)), (h_t_told, .inr (1, [.int t_told_genus, .int w3, .ref h_t_told_powers, .int t_told_limit, .long t_told_tree])), (h_t_told_powers, .inl (cI, 8, .inl w0))] t.heap) (va_A [(h_t, .inr (4, [.ref h_t_tape, .ref h_t_told, .ref h_t_causes, .int t_refused, .int t_place, .int t_cannotBe])), (h_t_tape, .inr (6, [.ref h_t_tape_bytes, .int t_tape_size])), (h_t_tape_bytes, .inl (cI, 60, .inl a_t_tape_bytes)), (h_t_told, .inr (1, [.int t_told_genus, .int t_told_size, .ref h_t_told_powers, .int t_told_limit, .long t_told_tree])), (h_t_told_powers, .inl (cI, 8, .inl a_t_told_powers))] sz)) 0 0 (va_A [(h_t, .inr (4, [.ref h_t_tape, .ref h_t_told, .ref h_t_causes, .int t_refused, .int t_place, .int t_cannotBe])), (h_t_tape, .inr (6, [.ref h_t_tape_bytes, .int t_tape_size])), (h_t_tape_bytes, .inl (cI, 60, .inl a_t_tape_bytes)), (h_t_told, .inr (1, [.int t_told_genus, .int t_told_size, .ref h_t_told_powers, .int t_told_limit, .long t_told_tree])), (h_t_told_powers, .inl (cI, 8, .inl a_t_told_powers))] sz) := by
  refine Met.ofW (cc := cX4_readPower) (maxL := 3) (ret := none) (by decide) rfl ?_
  intro p e s m args below meth c s₁ B hml hv
  obtain ⟨rfl, hsz, hP, hK, hD0⟩ := hv
  have hx := B.exec
  have hb := B.bytes
  have hr := B.returns
  have hts := atoms_spec (ws := wsX4_readPower) B.pre
  have hta : ∀ w ∈ wA, w.before ([.ref h_t] : List Value).toArray s = true := hta_of hts
  have hown : s.vm.findClass RX4 = some m.cls := findClass_of_methodNamed B.named
  have hlocks := B.notSynchronized
  subst hsz
  have hD := hD0.self (sz := s.heap.size)
  generalize hAe : va_A [(h_t, .inr (4, [.ref h_t_tape, .ref h_t_told, .ref h_t_causes, .int t_refused, .int t_place, .int t_cannotBe])), (h_t_tape, .inr (6, [.ref h_t_tape_bytes, .int t_tape_size])), (h_t_tape_bytes, .inl (cI, 60, .inl a_t_tape_bytes)), (h_t_told, .inr (1, [.int t_told_genus, .int t_told_size, .ref h_t_told_powers, .int t_told_limit, .long t_told_tree])), (h_t_told_powers, .inl (cI, 8, .inl a_t_told_powers))] s.heap.size = A at hD ⊢
  have hA : ∀ q : Nat, s.heap.size ≤ q → A q := fun q h => by rw [← hAe]; exact Or.inr h
  have hS : va_S A s.heap s.heap [] := va_S.rf
  have hl := lv_entry ([.ref h_t]) (n := 3) (Nat.le_of_ble_eq_true rfl)
  rw [lg_entry_eq]
  generalize (lg_sl ([.ref h_t]) ++ List.replicate (3 - (lg_sl ([.ref h_t])).length) Slot.unset).toArray = ls at hl ⊢
  have hl : lv_has ls 3 [(0, .ref h_t)] := hl
  have hinX4 : ∀ w ∈ wsX40, w ∈ wsX4_readPower := hin_of in_X4
  have h := hF
  unfold F_X4_readPower at h
  refine lv_aload_n hx hb dX4_readPower_0 rfl (lv_at hl 0 rfl) ?_
  refine va_get (D := G) (ci := 4) (v := .int t_place) (C := RX4) (T := TX4) (N := 6) hx hb hts hinX4 hown hK hP 0 rfl rfl 4 (by decide) (hta _ mw_189) (fun _ h9 => h9) rfl dX4_readPower_1 ?_
  refine lv_istore_n (lv' := [(1, .int t_place), (0, .ref h_t)]) hx hb dX4_readPower_4 rfl hl (by decide) rfl (fun ls hl => ?_)
  refine lv_aload_n hx hb dX4_readPower_5 rfl (lv_at hl 1 rfl) ?_
  refine va_get (D := G) (ci := 4) (v := .ref h_t_tape) (C := RX4) (T := TX4) (N := 6) hx hb hts hinX4 hown hK hP 0 rfl rfl 0 (by decide) (hta _ mw_177) (fun _ h9 => h9) rfl dX4_readPower_6 ?_
  refine lv_aload_n hx hb dX4_readPower_9 rfl (lv_at hl 1 rfl) ?_
  refine va_get (D := G) (ci := 4) (v := .int t_place) (C := RX4) (T := TX4) (N := 6) hx hb hts hinX4 hown hK hP 0 rfl rfl 4 (by decide) (hta _ mw_189) (fun _ h9 => h9) rfl dX4_readPower_10 ?_
  obtain ⟨x1, hx1, h⟩ := bd_e h
  try dsimp only at h
  refine k_ViU (n := 1) (As := [.int t_place]) (rest := []) hx hb hml hown hts (c_X7_figureAt l G cI cJ cD cH s.heap.size h_t_tape h_t_tape_bytes t_tape_size a_t_tape_bytes t_place x1 hx1) gX4_readPower_X7_figureAt rfl rfl rfl (by decide +kernel) ⟨by first | exact Nat.le_of_ble_eq_true rfl | (simp only [headSpec]; omega), by first | exact Nat.le_of_ble_eq_true rfl | (simp only [headSpec]; omega)⟩ hK hP hD hS hA [1, 2] (by decide) rfl (ci := 6) rfl rfl rfl rfl rfl hl.1 (Nat.le_of_ble_eq_true rfl) dX4_readPower_13 ⟨Nat.zero_le _, Nat.zero_le _⟩ (fun hp1 H locs hP hS => ?_)
  refine lv_istore_n (lv' := [(2, .int x1), (1, .int t_place), (0, .ref h_t)]) hx hb dX4_readPower_16 rfl hl (by decide) rfl (fun ls hl => ?_)
  refine lv_aload_n hx hb dX4_readPower_17 rfl (lv_at hl 2 rfl) ?_
  refine lv_dup hx hb dX4_readPower_18 rfl ?_
  refine va_get (D := G) (ci := 4) (v := .int t_place) (C := RX4) (T := TX4) (N := 6) hx hb hts hinX4 hown hK hP 0 rfl rfl 4 (by decide) (hta _ mw_189) (fun _ h9 => h9) rfl dX4_readPower_19 ?_
  refine lv_iconst (v := (1 : Int32)) hx hb dX4_readPower_22 (by decide) ?_
  refine lv_iadd hx hb dX4_readPower_23 ?_
  refine va_put (D := G) (ci := 4) (v := .int (t_place + (1 : Int32))) (ty := .int) (C := RX4) (T := TX4) (N := 6) hx hb hts hinX4 tyX4 tyX4_ok nmX4 hown hK hP hD hS 0 rfl rfl 4 (by decide) (hta _ mw_189) (fun _ h9 => h9) rfl (by decide +kernel) rfl rfl (Nat.le_of_ble_eq_true rfl) dX4_readPower_24 (fun H locs hP hD hS => ?_)
  have hP : va_P G vwCl [(h_t, .inr (4, [.ref h_t_tape, .ref h_t_told, .ref h_t_causes, .int t_refused, .int (t_place + (1 : Int32)), .int t_cannotBe])), (h_t_tape, .inr (6, [.ref h_t_tape_bytes, .int t_tape_size])), (h_t_tape_bytes, .inl (cI, 60, .inl a_t_tape_bytes)), (h_t_told, .inr (1, [.int t_told_genus, .int t_told_size, .ref h_t_told_powers, .int t_told_limit, .long t_told_tree])), (h_t_told_powers, .inl (cI, 8, .inl a_t_told_powers))] H := hP
  have hD : va_D A [(h_t, .inr (4, [.ref h_t_tape, .ref h_t_told, .ref h_t_causes, .int t_refused, .int (t_place + (1 : Int32)), .int t_cannotBe])), (h_t_tape, .inr (6, [.ref h_t_tape_bytes, .int t_tape_size])), (h_t_tape_bytes, .inl (cI, 60, .inl a_t_tape_bytes)), (h_t_told, .inr (1, [.int t_told_genus, .int t_told_size, .ref h_t_told_powers, .int t_told_limit, .long t_told_tree])), (h_t_told_powers, .inl (cI, 8, .inl a_t_told_powers))] := hD
  refine lv_aload_n hx hb dX4_readPower_27 rfl (lv_at hl 2 rfl) ?_
  refine va_get (D := G) (ci := 4) (v := .ref h_t_tape) (C := RX4) (T := TX4) (N := 6) hx hb hts hinX4 hown hK hP 0 rfl rfl 0 (by decide) (hta _ mw_177) (fun _ h9 => h9) rfl dX4_readPower_28 ?_
  refine lv_aload_n hx hb dX4_readPower_31 rfl (lv_at hl 2 rfl) ?_
  refine va_get (D := G) (ci := 4) (v := .int (t_place + (1 : Int32))) (C := RX4) (T := TX4) (N := 6) hx hb hts hinX4 hown hK hP 0 rfl rfl 4 (by decide) (hta _ mw_189) (fun _ h9 => h9) rfl dX4_readPower_32 ?_
  obtain ⟨x2, hx2, h⟩ := bd_e h
  try dsimp only at h
  refine k_ViU (n := 1) (As := [.int (t_place + (1 : Int32))]) (rest := []) hx hb hml hown hts (c_X7_isFigure l G cI cJ cD cH H.size h_t_tape h_t_tape_bytes t_tape_size a_t_tape_bytes (t_place + (1 : Int32)) x2 hx2) gX4_readPower_X7_isFigure rfl rfl rfl (by decide +kernel) ⟨by first | exact Nat.le_of_ble_eq_true rfl | (simp only [headSpec]; omega), by first | exact Nat.le_of_ble_eq_true rfl | (simp only [headSpec]; omega)⟩ hK hP hD hS hA [1, 2] (by decide) rfl (ci := 6) rfl rfl rfl rfl rfl hl.1 (Nat.le_of_ble_eq_true rfl) dX4_readPower_35 ⟨Nat.zero_le _, Nat.zero_le _⟩ (fun hp2 H locs hP hS => ?_)
  refine lv_if_eq (tgt := 68) hx hb dX4_readPower_38 (by decide) (fun c6 => ?_) (fun c6 => ?_)
  · have h := it_p h c6
    exact tJ_X4_readPower_68 hx hb hr hml hts hown hlocks hK hA (t_place + (1 : Int32)) x1 _ _ _ hP hD hS (lv_sub hl [2, 1, 0] rfl) h
  have h := it_n h c6
  refine lv_bipush (v := (10 : Int32)) hx hb dX4_readPower_41 (by decide) ?_
  refine lv_iload_n hx hb dX4_readPower_43 rfl (lv_at hl 0 rfl) ?_
  refine lv_imul hx hb dX4_readPower_44 ?_
  refine lv_aload_n hx hb dX4_readPower_45 rfl (lv_at hl 2 rfl) ?_
  refine va_get (D := G) (ci := 4) (v := .ref h_t_tape) (C := RX4) (T := TX4) (N := 6) hx hb hts hinX4 hown hK hP 0 rfl rfl 0 (by decide) (hta _ mw_177) (fun _ h9 => h9) rfl dX4_readPower_46 ?_
  refine lv_aload_n hx hb dX4_readPower_49 rfl (lv_at hl 2 rfl) ?_
  refine va_get (D := G) (ci := 4) (v := .int (t_place + (1 : Int32))) (C := RX4) (T := TX4) (N := 6) hx hb hts hinX4 hown hK hP 0 rfl rfl 4 (by decide) (hta _ mw_189) (fun _ h9 => h9) rfl dX4_readPower_50 ?_
  obtain ⟨x7, hx7, h⟩ := bd_e h
  try dsimp only at h
  refine k_ViU (n := 1) (As := [.int (t_place + (1 : Int32))]) (rest := [.int ((10 : Int32) * x1)]) hx hb hml hown hts (c_X7_figureAt l G cI cJ cD cH H.size h_t_tape h_t_tape_bytes t_tape_size a_t_tape_bytes (t_place + (1 : Int32)) x7 hx7) gX4_readPower_X7_figureAt rfl rfl rfl (by decide +kernel) ⟨by first | exact Nat.le_of_ble_eq_true rfl | (simp only [headSpec]; omega), by first | exact Nat.le_of_ble_eq_true rfl | (simp only [headSpec]; omega)⟩ hK hP hD hS hA [1, 2] (by decide) rfl (ci := 6) rfl rfl rfl rfl rfl hl.1 (Nat.le_of_ble_eq_true rfl) dX4_readPower_53 ⟨Nat.zero_le _, Nat.zero_le _⟩ (fun hp7 H locs hP hS => ?_)
  refine lv_iadd hx hb dX4_readPower_56 ?_
  refine lv_istore_n (lv' := [(2, .int (((10 : Int32) * x1) + x7)), (1, .int t_place), (0, .ref h_t)]) hx hb dX4_readPower_57 rfl hl (by decide) rfl (fun ls hl => ?_)
  refine lv_aload_n hx hb dX4_readPower_58 rfl (lv_at hl 2 rfl) ?_
  refine lv_dup hx hb dX4_readPower_59 rfl ?_
  refine va_get (D := G) (ci := 4) (v := .int (t_place + (1 : Int32))) (C := RX4) (T := TX4) (N := 6) hx hb hts hinX4 hown hK hP 0 rfl rfl 4 (by decide) (hta _ mw_189) (fun _ h9 => h9) rfl dX4_readPower_60 ?_
  refine lv_iconst (v := (1 : Int32)) hx hb dX4_readPower_63 (by decide) ?_
  refine lv_iadd hx hb dX4_readPower_64 ?_
  refine va_put (D := G) (ci := 4) (v := .int ((t_place + (1 : Int32)) + (1 : Int32))) (ty := .int) (C := RX4) (T := TX4) (N := 6) hx hb hts hinX4 tyX4 tyX4_ok nmX4 hown hK hP hD hS 0 rfl rfl 4 (by decide) (hta _ mw_189) (fun _ h9 => h9) rfl (by decide +kernel) rfl rfl (Nat.le_of_ble_eq_true rfl) dX4_readPower_65 (fun H locs hP hD hS => ?_)
  have hP : va_P G vwCl [(h_t, .inr (4, [.ref h_t_tape, .ref h_t_told, .ref h_t_causes, .int t_refused, .int ((t_place + (1 : Int32)) + (1 : Int32)), .int t_cannotBe])), (h_t_tape, .inr (6, [.ref h_t_tape_bytes, .int t_tape_size])), (h_t_tape_bytes, .inl (cI, 60, .inl a_t_tape_bytes)), (h_t_told, .inr (1, [.int t_told_genus, .int t_told_size, .ref h_t_told_powers, .int t_told_limit, .long t_told_tree])), (h_t_told_powers, .inl (cI, 8, .inl a_t_told_powers))] H := hP
  have hD : va_D A [(h_t, .inr (4, [.ref h_t_tape, .ref h_t_told, .ref h_t_causes, .int t_refused, .int ((t_place + (1 : Int32)) + (1 : Int32)), .int t_cannotBe])), (h_t_tape, .inr (6, [.ref h_t_tape_bytes, .int t_tape_size])), (h_t_tape_bytes, .inl (cI, 60, .inl a_t_tape_bytes)), (h_t_told, .inr (1, [.int t_told_genus, .int t_told_size, .ref h_t_told_powers, .int t_told_limit, .long t_told_tree])), (h_t_told_powers, .inl (cI, 8, .inl a_t_told_powers))] := hD
  exact tJ_X4_readPower_68 hx hb hr hml hts hown hlocks hK hA ((t_place + (1 : Int32)) + (1 : Int32)) (((10 : Int32) * x1) + x7) _ _ _ hP hD hS (lv_sub hl [2, 1, 0] rfl) h

/-! X4_readMarks -/
set_option maxHeartbeats 4000000 in
set_option maxRecDepth 100000 in
theorem tK_X4_readMarks_22_79 {l : Launch} {G : va_G} {cI cJ cD cH : ClassId} {h_t : Nat} {h_t_told : Nat} {h_t_tape : Nat} {h_t_tape_bytes : Nat} {h_t_told_powers : Nat} {h_t_causes : Nat} {t_refused : Int32} {t_told_genus : Int32} {t_told_limit : Int32} {t_told_tree : Int64} {t_tape_size : Int32} {a_t_tape_bytes : Nat → Int32} {r0 : Int32} {w0 : Nat → Int32} {w1 : Int32} {w2 : Int32} {w3 : Int32} {p : Program} {e : Env} {s : State} {m : MethodId} {below : List Frame} {meth : Method} {c : Code} {A : Nat → Prop} (hx : p.tables.exec = Jvm.exec) (hb : c.code = cX4_readMarks) (hr : meth.sig.returnType = (some .boolean)) (hml : c.maxLocals = 3) (hts : ∀ w ∈ wsX4_readMarks, w.before ([.ref h_t] : List Value).toArray s = true) (hown : s.vm.findClass RX4 = some m.cls) (hlocks : meth.locks = false) (hK : va_K G vwCl (k_T cI cJ cD cH) s) (hA : ∀ q : Nat, s.heap.size ≤ q → A q) : ∀  (vK22_79_0 : Nat → Int32) (vK22_79_1 : Int32) (vK22_79_2 : Int32) (vK22_79_3 : Int32) (H : Heap) (locs : List Loc) (ls : Array Slot), va_P G vwCl [(h_t, .inr (4, [.ref h_t_tape, .ref h_t_told, .ref h_t_causes, .int t_refused, .int vK22_79_1, .int vK22_79_2])), (h_t_told, .inr (1, [.int t_told_genus, .int vK22_79_3, .ref h_t_told_powers, .int t_told_limit, .long t_told_tree])), (h_t_tape, .inr (6, [.ref h_t_tape_bytes, .int t_tape_size])), (h_t_tape_bytes, .inl (cI, 60, .inl a_t_tape_bytes)), (h_t_told_powers, .inl (cI, 8, .inl vK22_79_0))] H → va_D A [(h_t, .inr (4, [.ref h_t_tape, .ref h_t_told, .ref h_t_causes, .int t_refused, .int vK22_79_1, .int vK22_79_2])), (h_t_told, .inr (1, [.int t_told_genus, .int vK22_79_3, .ref h_t_told_powers, .int t_told_limit, .long t_told_tree])), (h_t_tape, .inr (6, [.ref h_t_tape_bytes, .int t_tape_size])), (h_t_tape_bytes, .inl (cI, 60, .inl a_t_tape_bytes)), (h_t_told_powers, .inl (cI, 8, .inl vK22_79_0))] → va_S A s.heap H locs → lv_has ls 3 [] → K_X4_readMarks_22_79 vK22_79_0 vK22_79_1 vK22_79_2 vK22_79_3 = some (r0, w0, w1, w2, w3) → W p l e (headSpec wsX4_readMarks ({ frames := 3, cells := 0, slots := 0, locals := 65 })).room s m ([.ref h_t] : List Value).toArray below meth c H locs 0 0 (MQ below (va_Qi (fun r (_ : Unit) => r = r0 ∧ narrow .boolean (.int r0) = .int r0) (fun _ t => va_P G vwCl [(h_t, .inr (4, [.ref h_t_tape, .ref h_t_told, .ref h_t_causes, .int t_refused, .int w1, .int w2])), (h_t_told, .inr (1, [.int t_told_genus, .int w3, .ref h_t_told_powers, .int t_told_limit, .long t_told_tree])), (h_t_tape, .inr (6, [.ref h_t_tape_bytes, .int t_tape_size])), (h_t_tape_bytes, .inl (cI, 60, .inl a_t_tape_bytes)), (h_t_told_powers, .inl (cI, 8, .inl w0))] t.heap) A) ([.ref h_t] : List Value).toArray s 0 0 A) (F0 m 79 ls []) := by
  have hta : ∀ w ∈ wA, w.before ([.ref h_t] : List Value).toArray s = true := hta_of hts
  have hinX1 : ∀ w ∈ wsX10, w ∈ wsX4_readMarks := hin_of in_X1
  have hinX4 : ∀ w ∈ wsX40, w ∈ wsX4_readMarks := hin_of in_X4
  intro vK22_79_0 vK22_79_1 vK22_79_2 vK22_79_3 H locs ls hP hD hS hl h
  unfold K_X4_readMarks_22_79 at h
  refine lv_iconst (v := (1 : Int32)) hx hb dX4_readMarks_79 (by decide) ?_
  have h9 := Option.some.inj h
  have e9 : (1 : Int32) = r0 := congrArg (fun z9 => z9.1) h9
  rw [← e9]
  have e9 : vK22_79_0 = w0 := congrArg (fun z9 => z9.2.1) h9
  rw [← e9]
  have e9 : vK22_79_1 = w1 := congrArg (fun z9 => z9.2.2.1) h9
  rw [← e9]
  have e9 : vK22_79_2 = w2 := congrArg (fun z9 => z9.2.2.2.1) h9
  rw [← e9]
  have e9 : vK22_79_3 = w3 := congrArg (fun z9 => z9.2.2.2.2) h9
  rw [← e9]
  exact k_zret hx hb hr hlocks hP hS rfl rfl dX4_readMarks_80
set_option maxHeartbeats 4000000 in
set_option maxRecDepth 100000 in
theorem c_X4_readMarks (l : Launch) (G : va_G) (cI cJ cD cH : ClassId) (sz : Nat) (h_t : Nat) (h_t_told : Nat) (h_t_tape : Nat) (h_t_tape_bytes : Nat) (h_t_told_powers : Nat) (h_t_causes : Nat) (t_refused : Int32) (t_place : Int32) (t_cannotBe : Int32) (t_told_genus : Int32) (t_told_size : Int32) (t_told_limit : Int32) (t_told_tree : Int64) (t_tape_size : Int32) (a_t_tape_bytes : Nat → Int32) (a_t_told_powers : Nat → Int32) (r0 : Int32) (w0 : Nat → Int32) (w1 : Int32) (w2 : Int32) (w3 : Int32) (hF : F_X4_readMarks t_place t_cannotBe t_tape_size a_t_tape_bytes a_t_told_powers = some (r0, w0, w1, w2, w3)) : Met l yX4_readMarks wsX4_readMarks ({ frames := 3, cells := 0, slots := 0, locals := 65 }) (k_pre G (k_T cI cJ cD cH) [(h_t, .inr (4, [.ref h_t_tape, .ref h_t_told, .ref h_t_causes, .int t_refused, .int t_place, .int t_cannotBe])), (h_t_told, .inr (1, [.int t_told_genus, .int t_told_size, .ref h_t_told_powers, .int t_told_limit, .long t_told_tree])), (h_t_tape, .inr (6, [.ref h_t_tape_bytes, .int t_tape_size])), (h_t_tape_bytes, .inl (cI, 60, .inl a_t_tape_bytes)), (h_t_told_powers, .inl (cI, 8, .inl a_t_told_powers))] sz [.ref h_t]) (va_Qi (fun r (_ : Unit) => r = r0 ∧ narrow .boolean (.int r0) = .int r0) (fun _ t => va_P G vwCl [(h_t, .inr (4, [.ref h_t_tape, .ref h_t_told, .ref h_t_causes, .int t_refused, .int w1, .int w2])), (h_t_told, .inr (1, [.int t_told_genus, .int w3, .ref h_t_told_powers, .int t_told_limit, .long t_told_tree])), (h_t_tape, .inr (6, [.ref h_t_tape_bytes, .int t_tape_size])), (h_t_tape_bytes, .inl (cI, 60, .inl a_t_tape_bytes)), (h_t_told_powers, .inl (cI, 8, .inl w0))] t.heap) (va_A [(h_t, .inr (4, [.ref h_t_tape, .ref h_t_told, .ref h_t_causes, .int t_refused, .int t_place, .int t_cannotBe])), (h_t_told, .inr (1, [.int t_told_genus, .int t_told_size, .ref h_t_told_powers, .int t_told_limit, .long t_told_tree])), (h_t_tape, .inr (6, [.ref h_t_tape_bytes, .int t_tape_size])), (h_t_tape_bytes, .inl (cI, 60, .inl a_t_tape_bytes)), (h_t_told_powers, .inl (cI, 8, .inl a_t_told_powers))] sz)) 0 0 (va_A [(h_t, .inr (4, [.ref h_t_tape, .ref h_t_told, .ref h_t_causes, .int t_refused, .int t_place, .int t_cannotBe])), (h_t_told, .inr (1, [.int t_told_genus, .int t_told_size, .ref h_t_told_powers, .int t_told_limit, .long t_told_tree])), (h_t_tape, .inr (6, [.ref h_t_tape_bytes, .int t_tape_size])), (h_t_tape_bytes, .inl (cI, 60, .inl a_t_tape_bytes)), (h_t_told_powers, .inl (cI, 8, .inl a_t_told_powers))] sz) := by
  refine Met.ofW (cc := cX4_readMarks) (maxL := 3) (ret := (some .boolean)) (by decide) rfl ?_
  intro p e s m args below meth c s₁ B hml hv
  obtain ⟨rfl, hsz, hP, hK, hD0⟩ := hv
  have hx := B.exec
  have hb := B.bytes
  have hr := B.returns
  have hts := atoms_spec (ws := wsX4_readMarks) B.pre
  have hta : ∀ w ∈ wA, w.before ([.ref h_t] : List Value).toArray s = true := hta_of hts
  have hown : s.vm.findClass RX4 = some m.cls := findClass_of_methodNamed B.named
  have hlocks := B.notSynchronized
  subst hsz
  have hD := hD0.self (sz := s.heap.size)
  generalize hAe : va_A [(h_t, .inr (4, [.ref h_t_tape, .ref h_t_told, .ref h_t_causes, .int t_refused, .int t_place, .int t_cannotBe])), (h_t_told, .inr (1, [.int t_told_genus, .int t_told_size, .ref h_t_told_powers, .int t_told_limit, .long t_told_tree])), (h_t_tape, .inr (6, [.ref h_t_tape_bytes, .int t_tape_size])), (h_t_tape_bytes, .inl (cI, 60, .inl a_t_tape_bytes)), (h_t_told_powers, .inl (cI, 8, .inl a_t_told_powers))] s.heap.size = A at hD ⊢
  have hA : ∀ q : Nat, s.heap.size ≤ q → A q := fun q h => by rw [← hAe]; exact Or.inr h
  have hS : va_S A s.heap s.heap [] := va_S.rf
  have hl := lv_entry ([.ref h_t]) (n := 3) (Nat.le_of_ble_eq_true rfl)
  rw [lg_entry_eq]
  generalize (lg_sl ([.ref h_t]) ++ List.replicate (3 - (lg_sl ([.ref h_t])).length) Slot.unset).toArray = ls at hl ⊢
  have hl : lv_has ls 3 [(0, .ref h_t)] := hl
  have hinX1 : ∀ w ∈ wsX10, w ∈ wsX4_readMarks := hin_of in_X1
  have hinX4 : ∀ w ∈ wsX40, w ∈ wsX4_readMarks := hin_of in_X4
  have h := hF
  unfold F_X4_readMarks at h
  refine lv_aload_n hx hb dX4_readMarks_0 rfl (lv_at hl 0 rfl) ?_
  refine va_get (D := G) (ci := 4) (v := .ref h_t_told) (C := RX4) (T := TX4) (N := 6) hx hb hts hinX4 hown hK hP 0 rfl rfl 1 (by decide) (hta _ mw_179) (fun _ h9 => h9) rfl dX4_readMarks_1 ?_
  refine lv_iconst (v := (0 : Int32)) hx hb dX4_readMarks_4 (by decide) ?_
  refine va_put (D := G) (ci := 1) (v := .int (0 : Int32)) (ty := .int) (C := RX1) (T := TX1) (N := 5) hx hb hts hinX1 tyX1 tyX1_ok nmX1 hown hK hP hD hS 1 rfl rfl 1 (by decide) (hta _ mw_191) (fun _ h9 => h9) rfl (by decide +kernel) rfl rfl (Nat.le_of_ble_eq_true rfl) dX4_readMarks_5 (fun H locs hP hD hS => ?_)
  have hP : va_P G vwCl [(h_t, .inr (4, [.ref h_t_tape, .ref h_t_told, .ref h_t_causes, .int t_refused, .int t_place, .int t_cannotBe])), (h_t_told, .inr (1, [.int t_told_genus, .int (0 : Int32), .ref h_t_told_powers, .int t_told_limit, .long t_told_tree])), (h_t_tape, .inr (6, [.ref h_t_tape_bytes, .int t_tape_size])), (h_t_tape_bytes, .inl (cI, 60, .inl a_t_tape_bytes)), (h_t_told_powers, .inl (cI, 8, .inl a_t_told_powers))] H := hP
  have hD : va_D A [(h_t, .inr (4, [.ref h_t_tape, .ref h_t_told, .ref h_t_causes, .int t_refused, .int t_place, .int t_cannotBe])), (h_t_told, .inr (1, [.int t_told_genus, .int (0 : Int32), .ref h_t_told_powers, .int t_told_limit, .long t_told_tree])), (h_t_tape, .inr (6, [.ref h_t_tape_bytes, .int t_tape_size])), (h_t_tape_bytes, .inl (cI, 60, .inl a_t_tape_bytes)), (h_t_told_powers, .inl (cI, 8, .inl a_t_told_powers))] := hD
  refine lv_aload_n hx hb dX4_readMarks_8 rfl (lv_at hl 0 rfl) ?_
  refine va_get (D := G) (ci := 4) (v := .ref h_t_tape) (C := RX4) (T := TX4) (N := 6) hx hb hts hinX4 hown hK hP 0 rfl rfl 0 (by decide) (hta _ mw_177) (fun _ h9 => h9) rfl dX4_readMarks_9 ?_
  refine lv_aload_n hx hb dX4_readMarks_12 rfl (lv_at hl 0 rfl) ?_
  refine va_get (D := G) (ci := 4) (v := .int t_place) (C := RX4) (T := TX4) (N := 6) hx hb hts hinX4 hown hK hP 0 rfl rfl 4 (by decide) (hta _ mw_189) (fun _ h9 => h9) rfl dX4_readMarks_13 ?_
  obtain ⟨x1, hx1, h⟩ := bd_e h
  try dsimp only at h
  refine k_ViU (n := 1) (As := [.int t_place]) (rest := []) hx hb hml hown hts (c_X7_isFigure l G cI cJ cD cH H.size h_t_tape h_t_tape_bytes t_tape_size a_t_tape_bytes t_place x1 hx1) gX4_readMarks_X7_isFigure rfl rfl rfl (by decide +kernel) ⟨by first | exact Nat.le_of_ble_eq_true rfl | (simp only [headSpec]; omega), by first | exact Nat.le_of_ble_eq_true rfl | (simp only [headSpec]; omega)⟩ hK hP hD hS hA [2, 3] (by decide) rfl (ci := 6) rfl rfl rfl rfl rfl hl.1 (Nat.le_of_ble_eq_true rfl) dX4_readMarks_16 ⟨Nat.zero_le _, Nat.zero_le _⟩ (fun hp1 H locs hP hS => ?_)
  refine lv_istore_n (lv' := [(1, .int x1), (0, .ref h_t)]) hx hb dX4_readMarks_19 rfl hl (by decide) rfl (fun ls hl => ?_)
  refine lv_iconst (v := (0 : Int32)) hx hb dX4_readMarks_20 (by decide) ?_
  refine lv_istore_n (lv' := [(2, .int (0 : Int32)), (1, .int x1), (0, .ref h_t)]) hx hb dX4_readMarks_21 rfl hl (by decide) rfl (fun ls hl => ?_)
  have hL22 : ∀ (n22 : Nat) (vL22_0 : Nat → Int32) (vL22_1 : Int32) (vL22_2 : Int32) (vL22_3 : Int32) (vL22_4 : Int32) (vL22_5 : Int32) (H : Heap) (locs : List Loc) (ls : Array Slot), va_P G vwCl [(h_t, .inr (4, [.ref h_t_tape, .ref h_t_told, .ref h_t_causes, .int t_refused, .int vL22_1, .int vL22_2])), (h_t_told, .inr (1, [.int t_told_genus, .int vL22_3, .ref h_t_told_powers, .int t_told_limit, .long t_told_tree])), (h_t_tape, .inr (6, [.ref h_t_tape_bytes, .int t_tape_size])), (h_t_tape_bytes, .inl (cI, 60, .inl a_t_tape_bytes)), (h_t_told_powers, .inl (cI, 8, .inl vL22_0))] H → va_D A [(h_t, .inr (4, [.ref h_t_tape, .ref h_t_told, .ref h_t_causes, .int t_refused, .int vL22_1, .int vL22_2])), (h_t_told, .inr (1, [.int t_told_genus, .int vL22_3, .ref h_t_told_powers, .int t_told_limit, .long t_told_tree])), (h_t_tape, .inr (6, [.ref h_t_tape_bytes, .int t_tape_size])), (h_t_tape_bytes, .inl (cI, 60, .inl a_t_tape_bytes)), (h_t_told_powers, .inl (cI, 8, .inl vL22_0))] → va_S A s.heap H locs → lv_has ls 3 [(0, .ref h_t), (1, .int vL22_4), (2, .int vL22_5)] → wq6 (B_X4_readMarks_22 t_tape_size a_t_tape_bytes K_X4_readMarks_22_79) n22 vL22_0 vL22_1 vL22_2 vL22_3 vL22_4 vL22_5 = some (r0, w0, w1, w2, w3) → W p l e (headSpec wsX4_readMarks ({ frames := 3, cells := 0, slots := 0, locals := 65 })).room s m ([.ref h_t] : List Value).toArray below meth c H locs 0 0 (MQ below (va_Qi (fun r (_ : Unit) => r = r0 ∧ narrow .boolean (.int r0) = .int r0) (fun _ t => va_P G vwCl [(h_t, .inr (4, [.ref h_t_tape, .ref h_t_told, .ref h_t_causes, .int t_refused, .int w1, .int w2])), (h_t_told, .inr (1, [.int t_told_genus, .int w3, .ref h_t_told_powers, .int t_told_limit, .long t_told_tree])), (h_t_tape, .inr (6, [.ref h_t_tape_bytes, .int t_tape_size])), (h_t_tape_bytes, .inl (cI, 60, .inl a_t_tape_bytes)), (h_t_told_powers, .inl (cI, 8, .inl w0))] t.heap) A) ([.ref h_t] : List Value).toArray s 0 0 A) (F0 m 22 ls []) := by
    intro n22
    induction n22 with
    | zero => intro vL22_0 vL22_1 vL22_2 vL22_3 vL22_4 vL22_5 H locs ls hP hD hS hl h; exact wq6_0 h
    | succ n22 ih22 =>
      intro vL22_0 vL22_1 vL22_2 vL22_3 vL22_4 vL22_5 H locs ls hP hD hS hl h
      have h := wq6_s h
      unfold B_X4_readMarks_22 at h
      refine lv_iload_n hx hb dX4_readMarks_22 rfl (lv_at hl 2 rfl) ?_
      refine lv_bipush (v := (8 : Int32)) hx hb dX4_readMarks_23 (by decide) ?_
      refine lv_icmp_ge (tgt := 79) hx hb dX4_readMarks_25 (by decide) (fun c2 => ?_) (fun c2 => ?_)
      · have h := it_p h c2
        exact tK_X4_readMarks_22_79 hx hb hr hml hts hown hlocks hK hA vL22_0 vL22_1 vL22_2 vL22_3 _ _ _ hP hD hS (lv_sub hl [] rfl) h
      have h := it_n h c2
      refine lv_iload_n hx hb dX4_readMarks_28 rfl (lv_at hl 1 rfl) ?_
      refine lv_if_eq (tgt := 79) hx hb dX4_readMarks_29 (by decide) (fun c3 => ?_) (fun c3 => ?_)
      · have h := it_p h c3
        exact tK_X4_readMarks_22_79 hx hb hr hml hts hown hlocks hK hA vL22_0 vL22_1 vL22_2 vL22_3 _ _ _ hP hD hS (lv_sub hl [] rfl) h
      have h := it_n h c3
      refine lv_aload_n hx hb dX4_readMarks_32 rfl (lv_at hl 0 rfl) ?_
      refine va_get (D := G) (ci := 4) (v := .ref h_t_tape) (C := RX4) (T := TX4) (N := 6) hx hb hts hinX4 hown hK hP 0 rfl rfl 0 (by decide) (hta _ mw_177) (fun _ h9 => h9) rfl dX4_readMarks_33 ?_
      refine lv_aload_n hx hb dX4_readMarks_36 rfl (lv_at hl 0 rfl) ?_
      refine va_get (D := G) (ci := 4) (v := .int vL22_1) (C := RX4) (T := TX4) (N := 6) hx hb hts hinX4 hown hK hP 0 rfl rfl 4 (by decide) (hta _ mw_189) (fun _ h9 => h9) rfl dX4_readMarks_37 ?_
      obtain ⟨x4, hx4, h⟩ := bd_e h
      try dsimp only at h
      refine k_ViU (n := 1) (As := [.int vL22_1]) (rest := []) hx hb hml hown hts (c_X7_isFigure l G cI cJ cD cH H.size h_t_tape h_t_tape_bytes t_tape_size a_t_tape_bytes vL22_1 x4 hx4) gX4_readMarks_X7_isFigure rfl rfl rfl (by decide +kernel) ⟨by first | exact Nat.le_of_ble_eq_true rfl | (simp only [headSpec]; omega), by first | exact Nat.le_of_ble_eq_true rfl | (simp only [headSpec]; omega)⟩ hK hP hD hS hA [2, 3] (by decide) rfl (ci := 6) rfl rfl rfl rfl rfl hl.1 (Nat.le_of_ble_eq_true rfl) dX4_readMarks_40 ⟨Nat.zero_le _, Nat.zero_le _⟩ (fun hp4 H locs hP hS => ?_)
      refine lv_if_ne (tgt := 48) hx hb dX4_readMarks_43 (by decide) (fun c5 => ?_) (fun c5 => ?_)
      rotate_left
      · have h := it_p h c5
        refine lv_iconst (v := (0 : Int32)) hx hb dX4_readMarks_46 (by decide) ?_
        have h9 := Option.some.inj h
        have e9 : (0 : Int32) = r0 := congrArg (fun z9 => z9.1) h9
        rw [← e9]
        have e9 : vL22_0 = w0 := congrArg (fun z9 => z9.2.1) h9
        rw [← e9]
        have e9 : vL22_1 = w1 := congrArg (fun z9 => z9.2.2.1) h9
        rw [← e9]
        have e9 : vL22_2 = w2 := congrArg (fun z9 => z9.2.2.2.1) h9
        rw [← e9]
        have e9 : vL22_3 = w3 := congrArg (fun z9 => z9.2.2.2.2) h9
        rw [← e9]
        exact k_zret hx hb hr hlocks hP hS rfl rfl dX4_readMarks_47
      have h := it_n h c5
      refine lv_aload_n hx hb dX4_readMarks_48 rfl (lv_at hl 0 rfl) ?_
      obtain ⟨x6, hx6, h⟩ := bd_e h
      try dsimp only at h
      refine k_VvM (n := 0) (As := []) (rest := []) hx hb hml hown hts (c_X4_readPower l G cI cJ cD cH H.size h_t h_t_tape h_t_tape_bytes h_t_told h_t_told_powers h_t_causes t_refused vL22_1 vL22_2 t_tape_size a_t_tape_bytes t_told_genus vL22_3 t_told_limit t_told_tree vL22_0 (x6.1) (x6.2.1) (x6.2.2.1) (x6.2.2.2) hx6) gX4_readMarks_X4_readPower rfl rfl rfl (by decide +kernel) ⟨by first | exact Nat.le_of_ble_eq_true rfl | (simp only [headSpec]; omega), by first | exact Nat.le_of_ble_eq_true rfl | (simp only [headSpec]; omega)⟩ hK hP hD hS hA [0, 2, 3, 1, 4] (by decide) rfl rfl (ci := 4) rfl rfl rfl rfl rfl hl.1 (Nat.le_of_ble_eq_true rfl) dX4_readMarks_49 ⟨Nat.zero_le _, Nat.zero_le _⟩ [(h_t, .inr (4, [.ref h_t_tape, .ref h_t_told, .ref h_t_causes, .int t_refused, .int (x6.2.1), .int (x6.2.2.1)])), (h_t_told, .inr (1, [.int t_told_genus, .int (x6.2.2.2), .ref h_t_told_powers, .int t_told_limit, .long t_told_tree])), (h_t_tape, .inr (6, [.ref h_t_tape_bytes, .int t_tape_size])), (h_t_tape_bytes, .inl (cI, 60, .inl a_t_tape_bytes)), (h_t_told_powers, .inl (cI, 8, .inl (x6.1)))] [1, 4, 2, 3, 5] 5 (by decide +kernel) rfl rfl rfl (fun hp6 H locs hP hD hS => ?_)
      refine lv_iload_n hx hb dX4_readMarks_52 rfl (lv_at hl 2 rfl) ?_
      refine lv_bipush (v := (7 : Int32)) hx hb dX4_readMarks_53 (by decide) ?_
      refine lv_icmp_ge (tgt := 71) hx hb dX4_readMarks_55 (by decide) (fun c7 => ?_) (fun c7 => ?_)
      · have h := it_p h c7
        refine lv_iconst (v := (0 : Int32)) hx hb dX4_readMarks_71 (by decide) ?_
        refine lv_istore_n (lv' := [(1, .int (0 : Int32)), (0, .ref h_t), (2, .int vL22_5)]) hx hb dX4_readMarks_72 rfl hl (by decide) rfl (fun ls hl => ?_)
        refine lv_iinc (v := (vL22_5 + (1 : Int32))) (lv' := [(2, .int (vL22_5 + (1 : Int32))), (1, .int (0 : Int32)), (0, .ref h_t)]) hx hb dX4_readMarks_73 hl (k := 2) rfl (by first | rfl | decide) (by decide) rfl (fun ls hl => ?_)
        refine lv_goto (tgt := 22) hx hb dX4_readMarks_76 (by decide) ?_
        exact ih22 (x6.1) (x6.2.1) (x6.2.2.1) (x6.2.2.2) (0 : Int32) (vL22_5 + (1 : Int32)) _ _ _ hP hD hS (lv_sub hl [2, 1, 0] rfl) h
      have h := it_n h c7
      refine lv_aload_n hx hb dX4_readMarks_58 rfl (lv_at hl 0 rfl) ?_
      refine lv_bipush (v := (44 : Int32)) hx hb dX4_readMarks_59 (by decide) ?_
      obtain ⟨x8, hx8, h⟩ := bd_e h
      try dsimp only at h
      refine k_ViM (n := 1) (As := [.int (44 : Int32)]) (rest := []) hx hb hml hown hts (c_X4_readSign l G cI cJ cD cH H.size h_t h_t_tape h_t_tape_bytes h_t_told h_t_causes t_refused (x6.2.1) (x6.2.2.1) t_tape_size a_t_tape_bytes (44 : Int32) (x8.1) (x8.2) hx8) gX4_readMarks_X4_readSign rfl rfl rfl (by decide +kernel) ⟨by first | exact Nat.le_of_ble_eq_true rfl | (simp only [headSpec]; omega), by first | exact Nat.le_of_ble_eq_true rfl | (simp only [headSpec]; omega)⟩ hK hP hD hS hA [0, 2, 3] (by decide) rfl rfl (ci := 4) rfl rfl rfl rfl rfl hl.1 (Nat.le_of_ble_eq_true rfl) dX4_readMarks_61 ⟨Nat.zero_le _, Nat.zero_le _⟩ [(h_t, .inr (4, [.ref h_t_tape, .ref h_t_told, .ref h_t_causes, .int t_refused, .int (x8.2), .int (x6.2.2.1)])), (h_t_told, .inr (1, [.int t_told_genus, .int (x6.2.2.2), .ref h_t_told_powers, .int t_told_limit, .long t_told_tree])), (h_t_tape, .inr (6, [.ref h_t_tape_bytes, .int t_tape_size])), (h_t_tape_bytes, .inl (cI, 60, .inl a_t_tape_bytes)), (h_t_told_powers, .inl (cI, 8, .inl (x6.1)))] [1, 0, 2, 3, 0] 3 (by decide +kernel) rfl rfl rfl (fun hp8 H locs hP hD hS => ?_)
      refine lv_if_eq (tgt := 71) hx hb dX4_readMarks_64 (by decide) (fun c9 => ?_) (fun c9 => ?_)
      · have h := it_p h c9
        refine lv_iconst (v := (0 : Int32)) hx hb dX4_readMarks_71 (by decide) ?_
        refine lv_istore_n (lv' := [(1, .int (0 : Int32)), (0, .ref h_t), (2, .int vL22_5)]) hx hb dX4_readMarks_72 rfl hl (by decide) rfl (fun ls hl => ?_)
        refine lv_iinc (v := (vL22_5 + (1 : Int32))) (lv' := [(2, .int (vL22_5 + (1 : Int32))), (1, .int (0 : Int32)), (0, .ref h_t)]) hx hb dX4_readMarks_73 hl (k := 2) rfl (by first | rfl | decide) (by decide) rfl (fun ls hl => ?_)
        refine lv_goto (tgt := 22) hx hb dX4_readMarks_76 (by decide) ?_
        exact ih22 (x6.1) (x8.2) (x6.2.2.1) (x6.2.2.2) (0 : Int32) (vL22_5 + (1 : Int32)) _ _ _ hP hD hS (lv_sub hl [2, 1, 0] rfl) h
      have h := it_n h c9
      refine lv_iconst (v := (1 : Int32)) hx hb dX4_readMarks_67 (by decide) ?_
      refine lv_goto (tgt := 72) hx hb dX4_readMarks_68 (by decide) ?_
      refine lv_istore_n (lv' := [(1, .int (1 : Int32)), (0, .ref h_t), (2, .int vL22_5)]) hx hb dX4_readMarks_72 rfl hl (by decide) rfl (fun ls hl => ?_)
      refine lv_iinc (v := (vL22_5 + (1 : Int32))) (lv' := [(2, .int (vL22_5 + (1 : Int32))), (1, .int (1 : Int32)), (0, .ref h_t)]) hx hb dX4_readMarks_73 hl (k := 2) rfl (by first | rfl | decide) (by decide) rfl (fun ls hl => ?_)
      refine lv_goto (tgt := 22) hx hb dX4_readMarks_76 (by decide) ?_
      exact ih22 (x6.1) (x8.2) (x6.2.2.1) (x6.2.2.2) (1 : Int32) (vL22_5 + (1 : Int32)) _ _ _ hP hD hS (lv_sub hl [2, 1, 0] rfl) h
  exact hL22 FU a_t_told_powers t_place t_cannotBe (0 : Int32) x1 (0 : Int32) _ _ _ hP hD hS (lv_sub hl [2, 1, 0] rfl) h

/-! X6_isLeafCount -/
set_option maxHeartbeats 4000000 in
set_option maxRecDepth 100000 in
theorem c_X6_isLeafCount (l : Launch) (G : va_G) (cI cJ cD cH : ClassId) (sz : Nat) (p0 : Int32) (r0 : Int32) (hF : F_X6_isLeafCount p0 = some r0) : Met l yX6_isLeafCount wsX6_isLeafCount ({ frames := 0, cells := 0, slots := 0, locals := 0 }) (k_pre G (k_T cI cJ cD cH) [] sz [.int p0]) (va_Qi (fun r (_ : Unit) => r = r0 ∧ narrow .boolean (.int r0) = .int r0) (fun _ t => va_P G vwCl [] t.heap) (va_A [] sz)) 0 0 (va_A [] sz) := by
  refine Met.ofW (cc := cX6_isLeafCount) (maxL := 1) (ret := (some .boolean)) (by decide) rfl ?_
  intro p e s m args below meth c s₁ B hml hv
  obtain ⟨rfl, hsz, hP, hK, hD0⟩ := hv
  have hx := B.exec
  have hb := B.bytes
  have hr := B.returns
  have hts := atoms_spec (ws := wsX6_isLeafCount) B.pre
  have hta : ∀ w ∈ wA, w.before ([.int p0] : List Value).toArray s = true := hta_of hts
  have hown : s.vm.findClass RX6 = some m.cls := findClass_of_methodNamed B.named
  have hlocks := B.notSynchronized
  subst hsz
  have hD := hD0.self (sz := s.heap.size)
  generalize hAe : va_A [] s.heap.size = A at hD ⊢
  have hA : ∀ q : Nat, s.heap.size ≤ q → A q := fun q h => by rw [← hAe]; exact Or.inr h
  have hS : va_S A s.heap s.heap [] := va_S.rf
  have hl := lv_entry ([.int p0]) (n := 1) (Nat.le_of_ble_eq_true rfl)
  rw [lg_entry_eq]
  generalize (lg_sl ([.int p0]) ++ List.replicate (1 - (lg_sl ([.int p0])).length) Slot.unset).toArray = ls at hl ⊢
  have hl : lv_has ls 1 [(0, .int p0)] := hl
  have h := hF
  unfold F_X6_isLeafCount at h
  refine lv_iload_n hx hb dX6_isLeafCount_0 rfl (lv_at hl 0 rfl) ?_
  refine lv_iconst (v := (3 : Int32)) hx hb dX6_isLeafCount_1 (by decide) ?_
  refine lv_icmp_lt (tgt := 15) hx hb dX6_isLeafCount_2 (by decide) (fun c1 => ?_) (fun c1 => ?_)
  · have h := it_p h c1
    refine lv_iconst (v := (0 : Int32)) hx hb dX6_isLeafCount_15 (by decide) ?_
    have h9 := Option.some.inj h
    have e9 : (0 : Int32) = r0 := congrArg (fun z9 => z9) h9
    rw [← e9]
    exact k_zret hx hb hr hlocks hP hS rfl rfl dX6_isLeafCount_16
  have h := it_n h c1
  refine lv_iload_n hx hb dX6_isLeafCount_5 rfl (lv_at hl 0 rfl) ?_
  refine lv_bipush (v := (6 : Int32)) hx hb dX6_isLeafCount_6 (by decide) ?_
  refine lv_icmp_gt (tgt := 15) hx hb dX6_isLeafCount_8 (by decide) (fun c2 => ?_) (fun c2 => ?_)
  · have h := it_p h c2
    refine lv_iconst (v := (0 : Int32)) hx hb dX6_isLeafCount_15 (by decide) ?_
    have h9 := Option.some.inj h
    have e9 : (0 : Int32) = r0 := congrArg (fun z9 => z9) h9
    rw [← e9]
    exact k_zret hx hb hr hlocks hP hS rfl rfl dX6_isLeafCount_16
  have h := it_n h c2
  refine lv_iconst (v := (1 : Int32)) hx hb dX6_isLeafCount_11 (by decide) ?_
  refine lv_goto (tgt := 16) hx hb dX6_isLeafCount_12 (by decide) ?_
  have h9 := Option.some.inj h
  have e9 : (1 : Int32) = r0 := congrArg (fun z9 => z9) h9
  rw [← e9]
  exact k_zret hx hb hr hlocks hP hS rfl rfl dX6_isLeafCount_16

/-! X4_readLeafCount -/
set_option maxHeartbeats 4000000 in
set_option maxRecDepth 100000 in
theorem c_X4_readLeafCount (l : Launch) (G : va_G) (cI cJ cD cH : ClassId) (sz : Nat) (h_t : Nat) (h_t_tape : Nat) (h_t_tape_bytes : Nat) (h_t_told : Nat) (h_t_causes : Nat) (h_t_told_powers : Nat) (t_refused : Int32) (t_place : Int32) (t_cannotBe : Int32) (t_tape_size : Int32) (a_t_tape_bytes : Nat → Int32) (t_told_genus : Int32) (t_told_size : Int32) (t_told_limit : Int32) (t_told_tree : Int64) (r0 : Int32) (w0 : Int32) (w1 : Int32) (w2 : Int32) (w3 : Int64) (hF : F_X4_readLeafCount t_place t_cannotBe t_tape_size a_t_tape_bytes t_told_limit t_told_tree = some (r0, w0, w1, w2, w3)) : Met l yX4_readLeafCount wsX4_readLeafCount ({ frames := 2, cells := 0, slots := 0, locals := 43 }) (k_pre G (k_T cI cJ cD cH) [(h_t, .inr (4, [.ref h_t_tape, .ref h_t_told, .ref h_t_causes, .int t_refused, .int t_place, .int t_cannotBe])), (h_t_tape, .inr (6, [.ref h_t_tape_bytes, .int t_tape_size])), (h_t_tape_bytes, .inl (cI, 60, .inl a_t_tape_bytes)), (h_t_told, .inr (1, [.int t_told_genus, .int t_told_size, .ref h_t_told_powers, .int t_told_limit, .long t_told_tree]))] sz [.ref h_t]) (va_Qi (fun r (_ : Unit) => r = r0 ∧ narrow .boolean (.int r0) = .int r0) (fun _ t => va_P G vwCl [(h_t, .inr (4, [.ref h_t_tape, .ref h_t_told, .ref h_t_causes, .int t_refused, .int w0, .int w1])), (h_t_tape, .inr (6, [.ref h_t_tape_bytes, .int t_tape_size])), (h_t_tape_bytes, .inl (cI, 60, .inl a_t_tape_bytes)), (h_t_told, .inr (1, [.int t_told_genus, .int t_told_size, .ref h_t_told_powers, .int w2, .long w3]))] t.heap) (va_A [(h_t, .inr (4, [.ref h_t_tape, .ref h_t_told, .ref h_t_causes, .int t_refused, .int t_place, .int t_cannotBe])), (h_t_tape, .inr (6, [.ref h_t_tape_bytes, .int t_tape_size])), (h_t_tape_bytes, .inl (cI, 60, .inl a_t_tape_bytes)), (h_t_told, .inr (1, [.int t_told_genus, .int t_told_size, .ref h_t_told_powers, .int t_told_limit, .long t_told_tree]))] sz)) 0 0 (va_A [(h_t, .inr (4, [.ref h_t_tape, .ref h_t_told, .ref h_t_causes, .int t_refused, .int t_place, .int t_cannotBe])), (h_t_tape, .inr (6, [.ref h_t_tape_bytes, .int t_tape_size])), (h_t_tape_bytes, .inl (cI, 60, .inl a_t_tape_bytes)), (h_t_told, .inr (1, [.int t_told_genus, .int t_told_size, .ref h_t_told_powers, .int t_told_limit, .long t_told_tree]))] sz) := by
  refine Met.ofW (cc := cX4_readLeafCount) (maxL := 1) (ret := (some .boolean)) (by decide) rfl ?_
  intro p e s m args below meth c s₁ B hml hv
  obtain ⟨rfl, hsz, hP, hK, hD0⟩ := hv
  have hx := B.exec
  have hb := B.bytes
  have hr := B.returns
  have hts := atoms_spec (ws := wsX4_readLeafCount) B.pre
  have hta : ∀ w ∈ wA, w.before ([.ref h_t] : List Value).toArray s = true := hta_of hts
  have hown : s.vm.findClass RX4 = some m.cls := findClass_of_methodNamed B.named
  have hlocks := B.notSynchronized
  subst hsz
  have hD := hD0.self (sz := s.heap.size)
  generalize hAe : va_A [(h_t, .inr (4, [.ref h_t_tape, .ref h_t_told, .ref h_t_causes, .int t_refused, .int t_place, .int t_cannotBe])), (h_t_tape, .inr (6, [.ref h_t_tape_bytes, .int t_tape_size])), (h_t_tape_bytes, .inl (cI, 60, .inl a_t_tape_bytes)), (h_t_told, .inr (1, [.int t_told_genus, .int t_told_size, .ref h_t_told_powers, .int t_told_limit, .long t_told_tree]))] s.heap.size = A at hD ⊢
  have hA : ∀ q : Nat, s.heap.size ≤ q → A q := fun q h => by rw [← hAe]; exact Or.inr h
  have hS : va_S A s.heap s.heap [] := va_S.rf
  have hl := lv_entry ([.ref h_t]) (n := 1) (Nat.le_of_ble_eq_true rfl)
  rw [lg_entry_eq]
  generalize (lg_sl ([.ref h_t]) ++ List.replicate (1 - (lg_sl ([.ref h_t])).length) Slot.unset).toArray = ls at hl ⊢
  have hl : lv_has ls 1 [(0, .ref h_t)] := hl
  have hinX1 : ∀ w ∈ wsX10, w ∈ wsX4_readLeafCount := hin_of in_X1
  have hinX4 : ∀ w ∈ wsX40, w ∈ wsX4_readLeafCount := hin_of in_X4
  have h := hF
  unfold F_X4_readLeafCount at h
  refine lv_aload_n hx hb dX4_readLeafCount_0 rfl (lv_at hl 0 rfl) ?_
  refine va_get (D := G) (ci := 4) (v := .ref h_t_tape) (C := RX4) (T := TX4) (N := 6) hx hb hts hinX4 hown hK hP 0 rfl rfl 0 (by decide) (hta _ mw_177) (fun _ h9 => h9) rfl dX4_readLeafCount_1 ?_
  refine lv_aload_n hx hb dX4_readLeafCount_4 rfl (lv_at hl 0 rfl) ?_
  refine va_get (D := G) (ci := 4) (v := .int t_place) (C := RX4) (T := TX4) (N := 6) hx hb hts hinX4 hown hK hP 0 rfl rfl 4 (by decide) (hta _ mw_189) (fun _ h9 => h9) rfl dX4_readLeafCount_5 ?_
  obtain ⟨x1, hx1, h⟩ := bd_e h
  try dsimp only at h
  refine k_ViU (n := 1) (As := [.int t_place]) (rest := []) hx hb hml hown hts (c_X7_isFigure l G cI cJ cD cH s.heap.size h_t_tape h_t_tape_bytes t_tape_size a_t_tape_bytes t_place x1 hx1) gX4_readLeafCount_X7_isFigure rfl rfl rfl (by decide +kernel) ⟨by first | exact Nat.le_of_ble_eq_true rfl | (simp only [headSpec]; omega), by first | exact Nat.le_of_ble_eq_true rfl | (simp only [headSpec]; omega)⟩ hK hP hD hS hA [1, 2] (by decide) rfl (ci := 6) rfl rfl rfl rfl rfl hl.1 (Nat.le_of_ble_eq_true rfl) dX4_readLeafCount_8 ⟨Nat.zero_le _, Nat.zero_le _⟩ (fun hp1 H locs hP hS => ?_)
  refine lv_if_ne (tgt := 16) hx hb dX4_readLeafCount_11 (by decide) (fun c2 => ?_) (fun c2 => ?_)
  rotate_left
  · have h := it_p h c2
    refine lv_iconst (v := (0 : Int32)) hx hb dX4_readLeafCount_14 (by decide) ?_
    have h9 := Option.some.inj h
    have e9 : (0 : Int32) = r0 := congrArg (fun z9 => z9.1) h9
    rw [← e9]
    have e9 : t_place = w0 := congrArg (fun z9 => z9.2.1) h9
    rw [← e9]
    have e9 : t_cannotBe = w1 := congrArg (fun z9 => z9.2.2.1) h9
    rw [← e9]
    have e9 : t_told_limit = w2 := congrArg (fun z9 => z9.2.2.2.1) h9
    rw [← e9]
    have e9 : t_told_tree = w3 := congrArg (fun z9 => z9.2.2.2.2) h9
    rw [← e9]
    exact k_zret hx hb hr hlocks hP hS rfl rfl dX4_readLeafCount_15
  have h := it_n h c2
  refine lv_aload_n hx hb dX4_readLeafCount_16 rfl (lv_at hl 0 rfl) ?_
  refine va_get (D := G) (ci := 4) (v := .ref h_t_told) (C := RX4) (T := TX4) (N := 6) hx hb hts hinX4 hown hK hP 0 rfl rfl 1 (by decide) (hta _ mw_179) (fun _ h9 => h9) rfl dX4_readLeafCount_17 ?_
  refine lv_aload_n hx hb dX4_readLeafCount_20 rfl (lv_at hl 0 rfl) ?_
  refine va_get (D := G) (ci := 4) (v := .ref h_t_tape) (C := RX4) (T := TX4) (N := 6) hx hb hts hinX4 hown hK hP 0 rfl rfl 0 (by decide) (hta _ mw_177) (fun _ h9 => h9) rfl dX4_readLeafCount_21 ?_
  refine lv_aload_n hx hb dX4_readLeafCount_24 rfl (lv_at hl 0 rfl) ?_
  refine va_get (D := G) (ci := 4) (v := .int t_place) (C := RX4) (T := TX4) (N := 6) hx hb hts hinX4 hown hK hP 0 rfl rfl 4 (by decide) (hta _ mw_189) (fun _ h9 => h9) rfl dX4_readLeafCount_25 ?_
  obtain ⟨x3, hx3, h⟩ := bd_e h
  try dsimp only at h
  refine k_ViU (n := 1) (As := [.int t_place]) (rest := [.ref h_t_told]) hx hb hml hown hts (c_X7_figureAt l G cI cJ cD cH H.size h_t_tape h_t_tape_bytes t_tape_size a_t_tape_bytes t_place x3 hx3) gX4_readLeafCount_X7_figureAt rfl rfl rfl (by decide +kernel) ⟨by first | exact Nat.le_of_ble_eq_true rfl | (simp only [headSpec]; omega), by first | exact Nat.le_of_ble_eq_true rfl | (simp only [headSpec]; omega)⟩ hK hP hD hS hA [1, 2] (by decide) rfl (ci := 6) rfl rfl rfl rfl rfl hl.1 (Nat.le_of_ble_eq_true rfl) dX4_readLeafCount_28 ⟨Nat.zero_le _, Nat.zero_le _⟩ (fun hp3 H locs hP hS => ?_)
  refine va_put (D := G) (ci := 1) (v := .int x3) (ty := .int) (C := RX1) (T := TX1) (N := 5) hx hb hts hinX1 tyX1 tyX1_ok nmX1 hown hK hP hD hS 3 rfl rfl 3 (by decide) (hta _ mw_241) (fun _ h9 => h9) rfl (by decide +kernel) rfl rfl (Nat.le_of_ble_eq_true rfl) dX4_readLeafCount_31 (fun H locs hP hD hS => ?_)
  have hP : va_P G vwCl [(h_t, .inr (4, [.ref h_t_tape, .ref h_t_told, .ref h_t_causes, .int t_refused, .int t_place, .int t_cannotBe])), (h_t_tape, .inr (6, [.ref h_t_tape_bytes, .int t_tape_size])), (h_t_tape_bytes, .inl (cI, 60, .inl a_t_tape_bytes)), (h_t_told, .inr (1, [.int t_told_genus, .int t_told_size, .ref h_t_told_powers, .int x3, .long t_told_tree]))] H := hP
  have hD : va_D A [(h_t, .inr (4, [.ref h_t_tape, .ref h_t_told, .ref h_t_causes, .int t_refused, .int t_place, .int t_cannotBe])), (h_t_tape, .inr (6, [.ref h_t_tape_bytes, .int t_tape_size])), (h_t_tape_bytes, .inl (cI, 60, .inl a_t_tape_bytes)), (h_t_told, .inr (1, [.int t_told_genus, .int t_told_size, .ref h_t_told_powers, .int x3, .long t_told_tree]))] := hD
  refine lv_aload_n hx hb dX4_readLeafCount_34 rfl (lv_at hl 0 rfl) ?_
  refine va_get (D := G) (ci := 4) (v := .ref h_t_told) (C := RX4) (T := TX4) (N := 6) hx hb hts hinX4 hown hK hP 0 rfl rfl 1 (by decide) (hta _ mw_179) (fun _ h9 => h9) rfl dX4_readLeafCount_35 ?_
  refine lv_lconst (v := (0 : Int64)) hx hb dX4_readLeafCount_38 (by decide) ?_
  refine va_put (D := G) (ci := 1) (v := .long (0 : Int64)) (ty := .long) (C := RX1) (T := TX1) (N := 5) hx hb hts hinX1 tyX1 tyX1_ok nmX1 hown hK hP hD hS 3 rfl rfl 4 (by decide) (hta _ mw_242) (fun _ h9 => h9) rfl (by decide +kernel) rfl rfl (Nat.le_of_ble_eq_true rfl) dX4_readLeafCount_39 (fun H locs hP hD hS => ?_)
  have hP : va_P G vwCl [(h_t, .inr (4, [.ref h_t_tape, .ref h_t_told, .ref h_t_causes, .int t_refused, .int t_place, .int t_cannotBe])), (h_t_tape, .inr (6, [.ref h_t_tape_bytes, .int t_tape_size])), (h_t_tape_bytes, .inl (cI, 60, .inl a_t_tape_bytes)), (h_t_told, .inr (1, [.int t_told_genus, .int t_told_size, .ref h_t_told_powers, .int x3, .long (0 : Int64)]))] H := hP
  have hD : va_D A [(h_t, .inr (4, [.ref h_t_tape, .ref h_t_told, .ref h_t_causes, .int t_refused, .int t_place, .int t_cannotBe])), (h_t_tape, .inr (6, [.ref h_t_tape_bytes, .int t_tape_size])), (h_t_tape_bytes, .inl (cI, 60, .inl a_t_tape_bytes)), (h_t_told, .inr (1, [.int t_told_genus, .int t_told_size, .ref h_t_told_powers, .int x3, .long (0 : Int64)]))] := hD
  refine lv_aload_n hx hb dX4_readLeafCount_42 rfl (lv_at hl 0 rfl) ?_
  refine va_get (D := G) (ci := 4) (v := .ref h_t_told) (C := RX4) (T := TX4) (N := 6) hx hb hts hinX4 hown hK hP 0 rfl rfl 1 (by decide) (hta _ mw_179) (fun _ h9 => h9) rfl dX4_readLeafCount_43 ?_
  refine va_get (D := G) (ci := 1) (v := .int x3) (C := RX1) (T := TX1) (N := 5) hx hb hts hinX1 hown hK hP 3 rfl rfl 3 (by decide) (hta _ mw_241) (fun _ h9 => h9) rfl dX4_readLeafCount_46 ?_
  obtain ⟨x4, hx4, h⟩ := bd_e h
  try dsimp only at h
  refine k_SiU (n := 1) (As := [.int x3]) (rest := []) hx hb hml hown hts (c_X6_isLeafCount l G cI cJ cD cH H.size x3 x4 hx4) gX4_readLeafCount_X6_isLeafCount rfl rfl rfl (by decide +kernel) ⟨by first | exact Nat.le_of_ble_eq_true rfl | (simp only [headSpec]; omega), by first | exact Nat.le_of_ble_eq_true rfl | (simp only [headSpec]; omega)⟩ hK hP hD hS hA [] (by decide) rfl rfl rfl hl.1 (Nat.le_of_ble_eq_true rfl) dX4_readLeafCount_49 ⟨Nat.zero_le _, Nat.zero_le _⟩ (fun hp4 H locs hP hS => ?_)
  refine lv_if_ne (tgt := 63) hx hb dX4_readLeafCount_52 (by decide) (fun c5 => ?_) (fun c5 => ?_)
  · have h := it_n h c5
    refine lv_aload_n hx hb dX4_readLeafCount_63 rfl (lv_at hl 0 rfl) ?_
    refine lv_dup hx hb dX4_readLeafCount_64 rfl ?_
    refine va_get (D := G) (ci := 4) (v := .int t_place) (C := RX4) (T := TX4) (N := 6) hx hb hts hinX4 hown hK hP 0 rfl rfl 4 (by decide) (hta _ mw_189) (fun _ h9 => h9) rfl dX4_readLeafCount_65 ?_
    refine lv_iconst (v := (1 : Int32)) hx hb dX4_readLeafCount_68 (by decide) ?_
    refine lv_iadd hx hb dX4_readLeafCount_69 ?_
    refine va_put (D := G) (ci := 4) (v := .int (t_place + (1 : Int32))) (ty := .int) (C := RX4) (T := TX4) (N := 6) hx hb hts hinX4 tyX4 tyX4_ok nmX4 hown hK hP hD hS 0 rfl rfl 4 (by decide) (hta _ mw_189) (fun _ h9 => h9) rfl (by decide +kernel) rfl rfl (Nat.le_of_ble_eq_true rfl) dX4_readLeafCount_70 (fun H locs hP hD hS => ?_)
    have hP : va_P G vwCl [(h_t, .inr (4, [.ref h_t_tape, .ref h_t_told, .ref h_t_causes, .int t_refused, .int (t_place + (1 : Int32)), .int t_cannotBe])), (h_t_tape, .inr (6, [.ref h_t_tape_bytes, .int t_tape_size])), (h_t_tape_bytes, .inl (cI, 60, .inl a_t_tape_bytes)), (h_t_told, .inr (1, [.int t_told_genus, .int t_told_size, .ref h_t_told_powers, .int x3, .long (0 : Int64)]))] H := hP
    have hD : va_D A [(h_t, .inr (4, [.ref h_t_tape, .ref h_t_told, .ref h_t_causes, .int t_refused, .int (t_place + (1 : Int32)), .int t_cannotBe])), (h_t_tape, .inr (6, [.ref h_t_tape_bytes, .int t_tape_size])), (h_t_tape_bytes, .inl (cI, 60, .inl a_t_tape_bytes)), (h_t_told, .inr (1, [.int t_told_genus, .int t_told_size, .ref h_t_told_powers, .int x3, .long (0 : Int64)]))] := hD
    refine lv_iconst (v := (1 : Int32)) hx hb dX4_readLeafCount_73 (by decide) ?_
    have h9 := Option.some.inj h
    have e9 : (1 : Int32) = r0 := congrArg (fun z9 => z9.1) h9
    rw [← e9]
    have e9 : (t_place + (1 : Int32)) = w0 := congrArg (fun z9 => z9.2.1) h9
    rw [← e9]
    have e9 : t_cannotBe = w1 := congrArg (fun z9 => z9.2.2.1) h9
    rw [← e9]
    have e9 : x3 = w2 := congrArg (fun z9 => z9.2.2.2.1) h9
    rw [← e9]
    have e9 : (0 : Int64) = w3 := congrArg (fun z9 => z9.2.2.2.2) h9
    rw [← e9]
    exact k_zret hx hb hr hlocks hP hS rfl rfl dX4_readLeafCount_74
  have h := it_p h c5
  refine lv_aload_n hx hb dX4_readLeafCount_55 rfl (lv_at hl 0 rfl) ?_
  refine lv_aload_n hx hb dX4_readLeafCount_56 rfl (lv_at hl 0 rfl) ?_
  refine va_get (D := G) (ci := 4) (v := .int t_place) (C := RX4) (T := TX4) (N := 6) hx hb hts hinX4 hown hK hP 0 rfl rfl 4 (by decide) (hta _ mw_189) (fun _ h9 => h9) rfl dX4_readLeafCount_57 ?_
  obtain ⟨x6, hx6, h⟩ := bd_e h
  try dsimp only at h
  refine k_VvM (n := 1) (As := [.int t_place]) (rest := []) hx hb hml hown hts (c_X4_noteCannotBe l G cI cJ cD cH H.size h_t h_t_tape h_t_told h_t_causes t_refused t_place t_cannotBe t_place x6 hx6) gX4_readLeafCount_X4_noteCannotBe rfl rfl rfl (by decide +kernel) ⟨by first | exact Nat.le_of_ble_eq_true rfl | (simp only [headSpec]; omega), by first | exact Nat.le_of_ble_eq_true rfl | (simp only [headSpec]; omega)⟩ hK hP hD hS hA [0] (by decide) rfl rfl (ci := 4) rfl rfl rfl rfl rfl hl.1 (Nat.le_of_ble_eq_true rfl) dX4_readLeafCount_60 ⟨Nat.zero_le _, Nat.zero_le _⟩ [(h_t, .inr (4, [.ref h_t_tape, .ref h_t_told, .ref h_t_causes, .int t_refused, .int t_place, .int x6])), (h_t_tape, .inr (6, [.ref h_t_tape_bytes, .int t_tape_size])), (h_t_tape_bytes, .inl (cI, 60, .inl a_t_tape_bytes)), (h_t_told, .inr (1, [.int t_told_genus, .int t_told_size, .ref h_t_told_powers, .int x3, .long (0 : Int64)]))] [1, 0, 0, 0] 1 (by decide +kernel) rfl rfl rfl (fun hp6 H locs hP hD hS => ?_)
  refine lv_aload_n hx hb dX4_readLeafCount_63 rfl (lv_at hl 0 rfl) ?_
  refine lv_dup hx hb dX4_readLeafCount_64 rfl ?_
  refine va_get (D := G) (ci := 4) (v := .int t_place) (C := RX4) (T := TX4) (N := 6) hx hb hts hinX4 hown hK hP 0 rfl rfl 4 (by decide) (hta _ mw_189) (fun _ h9 => h9) rfl dX4_readLeafCount_65 ?_
  refine lv_iconst (v := (1 : Int32)) hx hb dX4_readLeafCount_68 (by decide) ?_
  refine lv_iadd hx hb dX4_readLeafCount_69 ?_
  refine va_put (D := G) (ci := 4) (v := .int (t_place + (1 : Int32))) (ty := .int) (C := RX4) (T := TX4) (N := 6) hx hb hts hinX4 tyX4 tyX4_ok nmX4 hown hK hP hD hS 0 rfl rfl 4 (by decide) (hta _ mw_189) (fun _ h9 => h9) rfl (by decide +kernel) rfl rfl (Nat.le_of_ble_eq_true rfl) dX4_readLeafCount_70 (fun H locs hP hD hS => ?_)
  have hP : va_P G vwCl [(h_t, .inr (4, [.ref h_t_tape, .ref h_t_told, .ref h_t_causes, .int t_refused, .int (t_place + (1 : Int32)), .int x6])), (h_t_tape, .inr (6, [.ref h_t_tape_bytes, .int t_tape_size])), (h_t_tape_bytes, .inl (cI, 60, .inl a_t_tape_bytes)), (h_t_told, .inr (1, [.int t_told_genus, .int t_told_size, .ref h_t_told_powers, .int x3, .long (0 : Int64)]))] H := hP
  have hD : va_D A [(h_t, .inr (4, [.ref h_t_tape, .ref h_t_told, .ref h_t_causes, .int t_refused, .int (t_place + (1 : Int32)), .int x6])), (h_t_tape, .inr (6, [.ref h_t_tape_bytes, .int t_tape_size])), (h_t_tape_bytes, .inl (cI, 60, .inl a_t_tape_bytes)), (h_t_told, .inr (1, [.int t_told_genus, .int t_told_size, .ref h_t_told_powers, .int x3, .long (0 : Int64)]))] := hD
  refine lv_iconst (v := (1 : Int32)) hx hb dX4_readLeafCount_73 (by decide) ?_
  have h9 := Option.some.inj h
  have e9 : (1 : Int32) = r0 := congrArg (fun z9 => z9.1) h9
  rw [← e9]
  have e9 : (t_place + (1 : Int32)) = w0 := congrArg (fun z9 => z9.2.1) h9
  rw [← e9]
  have e9 : x6 = w1 := congrArg (fun z9 => z9.2.2.1) h9
  rw [← e9]
  have e9 : x3 = w2 := congrArg (fun z9 => z9.2.2.2.1) h9
  rw [← e9]
  have e9 : (0 : Int64) = w3 := congrArg (fun z9 => z9.2.2.2.2) h9
  rw [← e9]
  exact k_zret hx hb hr hlocks hP hS rfl rfl dX4_readLeafCount_74

/-! J6_bitCount_0f7a4 -/
set_option maxHeartbeats 4000000 in
set_option maxRecDepth 100000 in
theorem c_J6_bitCount_0f7a4 (l : Launch) (G : va_G) (cI cJ cD cH : ClassId) (sz : Nat) (p0 : Int32) (r0 : Int32) (hF : F_J6_bitCount_0f7a4 p0 = some r0) : Met l yJ6_bitCount_0f7a4 wsJ6_bitCount_0f7a4 ({ frames := 0, cells := 0, slots := 0, locals := 0 }) (k_pre G (k_T cI cJ cD cH) [] sz [.int p0]) (va_Qi (fun r (_ : Unit) => r = r0 ∧ True) (fun _ t => va_P G vwCl [] t.heap) (va_A [] sz)) 0 0 (va_A [] sz) := by
  refine k_ofWF (cc := cJ6_bitCount_0f7a4) (maxL := 1) (ret := (some .int)) (by decide +kernel) rfl ?_
  intro p e s m args below meth c s₁ B hml hv
  obtain ⟨rfl, hsz, hP, hK, hD0⟩ := hv
  have hx := B.exec
  have hb := B.bytes
  have hr := B.returns
  have hts := atoms_spec (ws := wsJ6_bitCount_0f7a4) B.pre
  have hta : ∀ w ∈ wA, w.before ([.int p0] : List Value).toArray s = true := hta_of hts
  have hown : s.vm.findClass RJ6 = some m.cls := findClass_of_methodNamed B.named
  have hlocks := B.notSynchronized
  subst hsz
  have hD := hD0.self (sz := s.heap.size)
  generalize hAe : va_A [] s.heap.size = A at hD ⊢
  have hA : ∀ q : Nat, s.heap.size ≤ q → A q := fun q h => by rw [← hAe]; exact Or.inr h
  have hS : va_S A s.heap s.heap [] := va_S.rf
  have hl := lv_entry ([.int p0]) (n := 1) (Nat.le_of_ble_eq_true rfl)
  rw [lg_entry_eq]
  generalize (lg_sl ([.int p0]) ++ List.replicate (1 - (lg_sl ([.int p0])).length) Slot.unset).toArray = ls at hl ⊢
  have hl : lv_has ls 1 [(0, .int p0)] := hl
  have h := hF
  unfold F_J6_bitCount_0f7a4 at h
  refine lv_iload_n hx hb dJ6_bitCount_0f7a4_0 rfl (lv_at hl 0 rfl) ?_
  refine lv_iload_n hx hb dJ6_bitCount_0f7a4_1 rfl (lv_at hl 0 rfl) ?_
  refine lv_iconst (v := (1 : Int32)) hx hb dJ6_bitCount_0f7a4_2 (by decide) ?_
  refine lv_iushr (v := (iush p0 (1 : Int32))) hx hb dJ6_bitCount_0f7a4_3 rfl ?_
  refine lv_ldcw (v := (1431655765 : Int32)) hx hb hown (hta _ mw_262) dJ6_bitCount_0f7a4_4 ?_
  refine lv_iand hx hb dJ6_bitCount_0f7a4_7 ?_
  refine lv_isub hx hb dJ6_bitCount_0f7a4_8 ?_
  refine lv_istore_n (lv' := [(0, .int (p0 - ((iush p0 (1 : Int32)) &&& (1431655765 : Int32))))]) hx hb dJ6_bitCount_0f7a4_9 rfl hl (by decide) rfl (fun ls hl => ?_)
  refine lv_iload_n hx hb dJ6_bitCount_0f7a4_10 rfl (lv_at hl 0 rfl) ?_
  refine lv_ldcw (v := (858993459 : Int32)) hx hb hown (hta _ mw_263) dJ6_bitCount_0f7a4_11 ?_
  refine lv_iand hx hb dJ6_bitCount_0f7a4_14 ?_
  refine lv_iload_n hx hb dJ6_bitCount_0f7a4_15 rfl (lv_at hl 0 rfl) ?_
  refine lv_iconst (v := (2 : Int32)) hx hb dJ6_bitCount_0f7a4_16 (by decide) ?_
  refine lv_iushr (v := (iush (p0 - ((iush p0 (1 : Int32)) &&& (1431655765 : Int32))) (2 : Int32))) hx hb dJ6_bitCount_0f7a4_17 rfl ?_
  refine lv_ldcw (v := (858993459 : Int32)) hx hb hown (hta _ mw_263) dJ6_bitCount_0f7a4_18 ?_
  refine lv_iand hx hb dJ6_bitCount_0f7a4_21 ?_
  refine lv_iadd hx hb dJ6_bitCount_0f7a4_22 ?_
  refine lv_istore_n (lv' := [(0, .int (((p0 - ((iush p0 (1 : Int32)) &&& (1431655765 : Int32))) &&& (858993459 : Int32)) + ((iush (p0 - ((iush p0 (1 : Int32)) &&& (1431655765 : Int32))) (2 : Int32)) &&& (858993459 : Int32))))]) hx hb dJ6_bitCount_0f7a4_23 rfl hl (by decide) rfl (fun ls hl => ?_)
  refine lv_iload_n hx hb dJ6_bitCount_0f7a4_24 rfl (lv_at hl 0 rfl) ?_
  refine lv_iload_n hx hb dJ6_bitCount_0f7a4_25 rfl (lv_at hl 0 rfl) ?_
  refine lv_iconst (v := (4 : Int32)) hx hb dJ6_bitCount_0f7a4_26 (by decide) ?_
  refine lv_iushr (v := (iush (((p0 - ((iush p0 (1 : Int32)) &&& (1431655765 : Int32))) &&& (858993459 : Int32)) + ((iush (p0 - ((iush p0 (1 : Int32)) &&& (1431655765 : Int32))) (2 : Int32)) &&& (858993459 : Int32))) (4 : Int32))) hx hb dJ6_bitCount_0f7a4_27 rfl ?_
  refine lv_iadd hx hb dJ6_bitCount_0f7a4_28 ?_
  refine lv_ldcw (v := (252645135 : Int32)) hx hb hown (hta _ mw_264) dJ6_bitCount_0f7a4_29 ?_
  refine lv_iand hx hb dJ6_bitCount_0f7a4_32 ?_
  refine lv_istore_n (lv' := [(0, .int (((((p0 - ((iush p0 (1 : Int32)) &&& (1431655765 : Int32))) &&& (858993459 : Int32)) + ((iush (p0 - ((iush p0 (1 : Int32)) &&& (1431655765 : Int32))) (2 : Int32)) &&& (858993459 : Int32))) + (iush (((p0 - ((iush p0 (1 : Int32)) &&& (1431655765 : Int32))) &&& (858993459 : Int32)) + ((iush (p0 - ((iush p0 (1 : Int32)) &&& (1431655765 : Int32))) (2 : Int32)) &&& (858993459 : Int32))) (4 : Int32))) &&& (252645135 : Int32)))]) hx hb dJ6_bitCount_0f7a4_33 rfl hl (by decide) rfl (fun ls hl => ?_)
  refine lv_iload_n hx hb dJ6_bitCount_0f7a4_34 rfl (lv_at hl 0 rfl) ?_
  refine lv_iload_n hx hb dJ6_bitCount_0f7a4_35 rfl (lv_at hl 0 rfl) ?_
  refine lv_bipush (v := (8 : Int32)) hx hb dJ6_bitCount_0f7a4_36 (by decide) ?_
  refine lv_iushr (v := (iush (((((p0 - ((iush p0 (1 : Int32)) &&& (1431655765 : Int32))) &&& (858993459 : Int32)) + ((iush (p0 - ((iush p0 (1 : Int32)) &&& (1431655765 : Int32))) (2 : Int32)) &&& (858993459 : Int32))) + (iush (((p0 - ((iush p0 (1 : Int32)) &&& (1431655765 : Int32))) &&& (858993459 : Int32)) + ((iush (p0 - ((iush p0 (1 : Int32)) &&& (1431655765 : Int32))) (2 : Int32)) &&& (858993459 : Int32))) (4 : Int32))) &&& (252645135 : Int32)) (8 : Int32))) hx hb dJ6_bitCount_0f7a4_38 rfl ?_
  refine lv_iadd hx hb dJ6_bitCount_0f7a4_39 ?_
  refine lv_istore_n (lv' := [(0, .int ((((((p0 - ((iush p0 (1 : Int32)) &&& (1431655765 : Int32))) &&& (858993459 : Int32)) + ((iush (p0 - ((iush p0 (1 : Int32)) &&& (1431655765 : Int32))) (2 : Int32)) &&& (858993459 : Int32))) + (iush (((p0 - ((iush p0 (1 : Int32)) &&& (1431655765 : Int32))) &&& (858993459 : Int32)) + ((iush (p0 - ((iush p0 (1 : Int32)) &&& (1431655765 : Int32))) (2 : Int32)) &&& (858993459 : Int32))) (4 : Int32))) &&& (252645135 : Int32)) + (iush (((((p0 - ((iush p0 (1 : Int32)) &&& (1431655765 : Int32))) &&& (858993459 : Int32)) + ((iush (p0 - ((iush p0 (1 : Int32)) &&& (1431655765 : Int32))) (2 : Int32)) &&& (858993459 : Int32))) + (iush (((p0 - ((iush p0 (1 : Int32)) &&& (1431655765 : Int32))) &&& (858993459 : Int32)) + ((iush (p0 - ((iush p0 (1 : Int32)) &&& (1431655765 : Int32))) (2 : Int32)) &&& (858993459 : Int32))) (4 : Int32))) &&& (252645135 : Int32)) (8 : Int32))))]) hx hb dJ6_bitCount_0f7a4_40 rfl hl (by decide) rfl (fun ls hl => ?_)
  refine lv_iload_n hx hb dJ6_bitCount_0f7a4_41 rfl (lv_at hl 0 rfl) ?_
  refine lv_iload_n hx hb dJ6_bitCount_0f7a4_42 rfl (lv_at hl 0 rfl) ?_
  refine lv_bipush (v := (16 : Int32)) hx hb dJ6_bitCount_0f7a4_43 (by decide) ?_
  refine lv_iushr (v := (iush ((((((p0 - ((iush p0 (1 : Int32)) &&& (1431655765 : Int32))) &&& (858993459 : Int32)) + ((iush (p0 - ((iush p0 (1 : Int32)) &&& (1431655765 : Int32))) (2 : Int32)) &&& (858993459 : Int32))) + (iush (((p0 - ((iush p0 (1 : Int32)) &&& (1431655765 : Int32))) &&& (858993459 : Int32)) + ((iush (p0 - ((iush p0 (1 : Int32)) &&& (1431655765 : Int32))) (2 : Int32)) &&& (858993459 : Int32))) (4 : Int32))) &&& (252645135 : Int32)) + (iush (((((p0 - ((iush p0 (1 : Int32)) &&& (1431655765 : Int32))) &&& (858993459 : Int32)) + ((iush (p0 - ((iush p0 (1 : Int32)) &&& (1431655765 : Int32))) (2 : Int32)) &&& (858993459 : Int32))) + (iush (((p0 - ((iush p0 (1 : Int32)) &&& (1431655765 : Int32))) &&& (858993459 : Int32)) + ((iush (p0 - ((iush p0 (1 : Int32)) &&& (1431655765 : Int32))) (2 : Int32)) &&& (858993459 : Int32))) (4 : Int32))) &&& (252645135 : Int32)) (8 : Int32))) (16 : Int32))) hx hb dJ6_bitCount_0f7a4_45 rfl ?_
  refine lv_iadd hx hb dJ6_bitCount_0f7a4_46 ?_
  refine lv_istore_n (lv' := [(0, .int (((((((p0 - ((iush p0 (1 : Int32)) &&& (1431655765 : Int32))) &&& (858993459 : Int32)) + ((iush (p0 - ((iush p0 (1 : Int32)) &&& (1431655765 : Int32))) (2 : Int32)) &&& (858993459 : Int32))) + (iush (((p0 - ((iush p0 (1 : Int32)) &&& (1431655765 : Int32))) &&& (858993459 : Int32)) + ((iush (p0 - ((iush p0 (1 : Int32)) &&& (1431655765 : Int32))) (2 : Int32)) &&& (858993459 : Int32))) (4 : Int32))) &&& (252645135 : Int32)) + (iush (((((p0 - ((iush p0 (1 : Int32)) &&& (1431655765 : Int32))) &&& (858993459 : Int32)) + ((iush (p0 - ((iush p0 (1 : Int32)) &&& (1431655765 : Int32))) (2 : Int32)) &&& (858993459 : Int32))) + (iush (((p0 - ((iush p0 (1 : Int32)) &&& (1431655765 : Int32))) &&& (858993459 : Int32)) + ((iush (p0 - ((iush p0 (1 : Int32)) &&& (1431655765 : Int32))) (2 : Int32)) &&& (858993459 : Int32))) (4 : Int32))) &&& (252645135 : Int32)) (8 : Int32))) + (iush ((((((p0 - ((iush p0 (1 : Int32)) &&& (1431655765 : Int32))) &&& (858993459 : Int32)) + ((iush (p0 - ((iush p0 (1 : Int32)) &&& (1431655765 : Int32))) (2 : Int32)) &&& (858993459 : Int32))) + (iush (((p0 - ((iush p0 (1 : Int32)) &&& (1431655765 : Int32))) &&& (858993459 : Int32)) + ((iush (p0 - ((iush p0 (1 : Int32)) &&& (1431655765 : Int32))) (2 : Int32)) &&& (858993459 : Int32))) (4 : Int32))) &&& (252645135 : Int32)) + (iush (((((p0 - ((iush p0 (1 : Int32)) &&& (1431655765 : Int32))) &&& (858993459 : Int32)) + ((iush (p0 - ((iush p0 (1 : Int32)) &&& (1431655765 : Int32))) (2 : Int32)) &&& (858993459 : Int32))) + (iush (((p0 - ((iush p0 (1 : Int32)) &&& (1431655765 : Int32))) &&& (858993459 : Int32)) + ((iush (p0 - ((iush p0 (1 : Int32)) &&& (1431655765 : Int32))) (2 : Int32)) &&& (858993459 : Int32))) (4 : Int32))) &&& (252645135 : Int32)) (8 : Int32))) (16 : Int32))))]) hx hb dJ6_bitCount_0f7a4_47 rfl hl (by decide) rfl (fun ls hl => ?_)
  refine lv_iload_n hx hb dJ6_bitCount_0f7a4_48 rfl (lv_at hl 0 rfl) ?_
  refine lv_bipush (v := (63 : Int32)) hx hb dJ6_bitCount_0f7a4_49 (by decide) ?_
  refine lv_iand hx hb dJ6_bitCount_0f7a4_51 ?_
  have h9 := Option.some.inj h
  have e9 : ((((((((p0 - ((iush p0 (1 : Int32)) &&& (1431655765 : Int32))) &&& (858993459 : Int32)) + ((iush (p0 - ((iush p0 (1 : Int32)) &&& (1431655765 : Int32))) (2 : Int32)) &&& (858993459 : Int32))) + (iush (((p0 - ((iush p0 (1 : Int32)) &&& (1431655765 : Int32))) &&& (858993459 : Int32)) + ((iush (p0 - ((iush p0 (1 : Int32)) &&& (1431655765 : Int32))) (2 : Int32)) &&& (858993459 : Int32))) (4 : Int32))) &&& (252645135 : Int32)) + (iush (((((p0 - ((iush p0 (1 : Int32)) &&& (1431655765 : Int32))) &&& (858993459 : Int32)) + ((iush (p0 - ((iush p0 (1 : Int32)) &&& (1431655765 : Int32))) (2 : Int32)) &&& (858993459 : Int32))) + (iush (((p0 - ((iush p0 (1 : Int32)) &&& (1431655765 : Int32))) &&& (858993459 : Int32)) + ((iush (p0 - ((iush p0 (1 : Int32)) &&& (1431655765 : Int32))) (2 : Int32)) &&& (858993459 : Int32))) (4 : Int32))) &&& (252645135 : Int32)) (8 : Int32))) + (iush ((((((p0 - ((iush p0 (1 : Int32)) &&& (1431655765 : Int32))) &&& (858993459 : Int32)) + ((iush (p0 - ((iush p0 (1 : Int32)) &&& (1431655765 : Int32))) (2 : Int32)) &&& (858993459 : Int32))) + (iush (((p0 - ((iush p0 (1 : Int32)) &&& (1431655765 : Int32))) &&& (858993459 : Int32)) + ((iush (p0 - ((iush p0 (1 : Int32)) &&& (1431655765 : Int32))) (2 : Int32)) &&& (858993459 : Int32))) (4 : Int32))) &&& (252645135 : Int32)) + (iush (((((p0 - ((iush p0 (1 : Int32)) &&& (1431655765 : Int32))) &&& (858993459 : Int32)) + ((iush (p0 - ((iush p0 (1 : Int32)) &&& (1431655765 : Int32))) (2 : Int32)) &&& (858993459 : Int32))) + (iush (((p0 - ((iush p0 (1 : Int32)) &&& (1431655765 : Int32))) &&& (858993459 : Int32)) + ((iush (p0 - ((iush p0 (1 : Int32)) &&& (1431655765 : Int32))) (2 : Int32)) &&& (858993459 : Int32))) (4 : Int32))) &&& (252645135 : Int32)) (8 : Int32))) (16 : Int32))) &&& (63 : Int32)) = r0 := congrArg (fun z9 => z9) h9
  rw [← e9]
  exact k_iret hx hb hr hlocks hP hS rfl dJ6_bitCount_0f7a4_52

/-! X6_isSplit -/
set_option maxHeartbeats 4000000 in
set_option maxRecDepth 100000 in
theorem c_X6_isSplit (l : Launch) (G : va_G) (cI cJ cD cH : ClassId) (sz : Nat) (p0 : Int32) (p1 : Int32) (r0 : Int32) (hF : F_X6_isSplit p0 p1 = some r0) : Met l yX6_isSplit wsX6_isSplit ({ frames := 1, cells := 0, slots := 0, locals := 20 }) (k_pre G (k_T cI cJ cD cH) [] sz [.int p0, .int p1]) (va_Qi (fun r (_ : Unit) => r = r0 ∧ narrow .boolean (.int r0) = .int r0) (fun _ t => va_P G vwCl [] t.heap) (va_A [] sz)) 0 0 (va_A [] sz) := by
  refine Met.ofW (cc := cX6_isSplit) (maxL := 3) (ret := (some .boolean)) (by decide) rfl ?_
  intro p e s m args below meth c s₁ B hml hv
  obtain ⟨rfl, hsz, hP, hK, hD0⟩ := hv
  have hx := B.exec
  have hb := B.bytes
  have hr := B.returns
  have hts := atoms_spec (ws := wsX6_isSplit) B.pre
  have hta : ∀ w ∈ wA, w.before ([.int p0, .int p1] : List Value).toArray s = true := hta_of hts
  have hown : s.vm.findClass RX6 = some m.cls := findClass_of_methodNamed B.named
  have hlocks := B.notSynchronized
  subst hsz
  have hD := hD0.self (sz := s.heap.size)
  generalize hAe : va_A [] s.heap.size = A at hD ⊢
  have hA : ∀ q : Nat, s.heap.size ≤ q → A q := fun q h => by rw [← hAe]; exact Or.inr h
  have hS : va_S A s.heap s.heap [] := va_S.rf
  have hl := lv_entry ([.int p0, .int p1]) (n := 3) (Nat.le_of_ble_eq_true rfl)
  rw [lg_entry_eq]
  generalize (lg_sl ([.int p0, .int p1]) ++ List.replicate (3 - (lg_sl ([.int p0, .int p1])).length) Slot.unset).toArray = ls at hl ⊢
  have hl : lv_has ls 3 [(0, .int p0), (1, .int p1)] := hl
  have h := hF
  unfold F_X6_isSplit at h
  refine lv_iload_n hx hb dX6_isSplit_0 rfl (lv_at hl 1 rfl) ?_
  obtain ⟨x1, hx1, h⟩ := bd_e h
  try dsimp only at h
  refine k_SiU (n := 1) (As := [.int p1]) (rest := []) hx hb hml hown hts (c_X6_isLeafCount l G cI cJ cD cH s.heap.size p1 x1 hx1) gX6_isSplit_X6_isLeafCount rfl rfl rfl (by decide +kernel) ⟨by first | exact Nat.le_of_ble_eq_true rfl | (simp only [headSpec]; omega), by first | exact Nat.le_of_ble_eq_true rfl | (simp only [headSpec]; omega)⟩ hK hP hD hS hA [] (by decide) rfl rfl rfl hl.1 (Nat.le_of_ble_eq_true rfl) dX6_isSplit_1 ⟨Nat.zero_le _, Nat.zero_le _⟩ (fun hp1 H locs hP hS => ?_)
  refine lv_if_eq (tgt := 24) hx hb dX6_isSplit_4 (by decide) (fun c2 => ?_) (fun c2 => ?_)
  · have h := it_p h c2
    refine lv_iconst (v := (0 : Int32)) hx hb dX6_isSplit_24 (by decide) ?_
    have h9 := Option.some.inj h
    have e9 : (0 : Int32) = r0 := congrArg (fun z9 => z9) h9
    rw [← e9]
    exact k_zret hx hb hr hlocks hP hS rfl rfl dX6_isSplit_25
  have h := it_n h c2
  refine lv_iload_n hx hb dX6_isSplit_7 rfl (lv_at hl 0 rfl) ?_
  refine lv_if_le (tgt := 24) hx hb dX6_isSplit_8 (by decide) (fun c3 => ?_) (fun c3 => ?_)
  · have h := it_p h c3
    refine lv_iconst (v := (0 : Int32)) hx hb dX6_isSplit_24 (by decide) ?_
    have h9 := Option.some.inj h
    have e9 : (0 : Int32) = r0 := congrArg (fun z9 => z9) h9
    rw [← e9]
    exact k_zret hx hb hr hlocks hP hS rfl rfl dX6_isSplit_25
  have h := it_n h c3
  refine lv_iload_n hx hb dX6_isSplit_11 rfl (lv_at hl 0 rfl) ?_
  refine lv_iconst (v := (1 : Int32)) hx hb dX6_isSplit_12 (by decide) ?_
  refine lv_iload_n hx hb dX6_isSplit_13 rfl (lv_at hl 1 rfl) ?_
  refine lv_ishl hx hb dX6_isSplit_14 ?_
  refine lv_icmp_ge (tgt := 24) hx hb dX6_isSplit_15 (by decide) (fun c4 => ?_) (fun c4 => ?_)
  · have h := it_p h c4
    refine lv_iconst (v := (0 : Int32)) hx hb dX6_isSplit_24 (by decide) ?_
    have h9 := Option.some.inj h
    have e9 : (0 : Int32) = r0 := congrArg (fun z9 => z9) h9
    rw [← e9]
    exact k_zret hx hb hr hlocks hP hS rfl rfl dX6_isSplit_25
  have h := it_n h c4
  refine lv_iload_n hx hb dX6_isSplit_18 rfl (lv_at hl 0 rfl) ?_
  refine lv_iconst (v := (1 : Int32)) hx hb dX6_isSplit_19 (by decide) ?_
  refine lv_iand hx hb dX6_isSplit_20 ?_
  refine lv_if_eq (tgt := 26) hx hb dX6_isSplit_21 (by decide) (fun c5 => ?_) (fun c5 => ?_)
  rotate_left
  · have h := it_n h c5
    refine lv_iconst (v := (0 : Int32)) hx hb dX6_isSplit_24 (by decide) ?_
    have h9 := Option.some.inj h
    have e9 : (0 : Int32) = r0 := congrArg (fun z9 => z9) h9
    rw [← e9]
    exact k_zret hx hb hr hlocks hP hS rfl rfl dX6_isSplit_25
  have h := it_p h c5
  refine lv_iload_n hx hb dX6_isSplit_26 rfl (lv_at hl 0 rfl) ?_
  obtain ⟨x6, hx6, h⟩ := bd_e h
  try dsimp only at h
  refine k_SiU (n := 1) (As := [.int p0]) (rest := []) hx hb hml hown hts (c_J6_bitCount_0f7a4 l G cI cJ cD cH H.size p0 x6 hx6) gX6_isSplit_J6_bitCount_0f7a4 rfl rfl rfl (by decide +kernel) ⟨by first | exact Nat.le_of_ble_eq_true rfl | (simp only [headSpec]; omega), by first | exact Nat.le_of_ble_eq_true rfl | (simp only [headSpec]; omega)⟩ hK hP hD hS hA [] (by decide) rfl rfl rfl hl.1 (Nat.le_of_ble_eq_true rfl) dX6_isSplit_27 ⟨Nat.zero_le _, Nat.zero_le _⟩ (fun hp6 H locs hP hS => ?_)
  refine lv_istore_n (lv' := [(2, .int x6), (0, .int p0), (1, .int p1)]) hx hb dX6_isSplit_30 rfl hl (by decide) rfl (fun ls hl => ?_)
  refine lv_iload_n hx hb dX6_isSplit_31 rfl (lv_at hl 0 rfl) ?_
  refine lv_iconst (v := (2 : Int32)) hx hb dX6_isSplit_32 (by decide) ?_
  refine lv_icmp_lt (tgt := 47) hx hb dX6_isSplit_33 (by decide) (fun c7 => ?_) (fun c7 => ?_)
  · have h := it_p h c7
    refine lv_iconst (v := (0 : Int32)) hx hb dX6_isSplit_47 (by decide) ?_
    have h9 := Option.some.inj h
    have e9 : (0 : Int32) = r0 := congrArg (fun z9 => z9) h9
    rw [← e9]
    exact k_zret hx hb hr hlocks hP hS rfl rfl dX6_isSplit_48
  have h := it_n h c7
  refine lv_iload_n hx hb dX6_isSplit_36 rfl (lv_at hl 0 rfl) ?_
  refine lv_iload_n hx hb dX6_isSplit_37 rfl (lv_at hl 2 rfl) ?_
  refine lv_iconst (v := (2 : Int32)) hx hb dX6_isSplit_38 (by decide) ?_
  refine lv_isub hx hb dX6_isSplit_39 ?_
  refine lv_icmp_gt (tgt := 47) hx hb dX6_isSplit_40 (by decide) (fun c8 => ?_) (fun c8 => ?_)
  · have h := it_p h c8
    refine lv_iconst (v := (0 : Int32)) hx hb dX6_isSplit_47 (by decide) ?_
    have h9 := Option.some.inj h
    have e9 : (0 : Int32) = r0 := congrArg (fun z9 => z9) h9
    rw [← e9]
    exact k_zret hx hb hr hlocks hP hS rfl rfl dX6_isSplit_48
  have h := it_n h c8
  refine lv_iconst (v := (1 : Int32)) hx hb dX6_isSplit_43 (by decide) ?_
  refine lv_goto (tgt := 48) hx hb dX6_isSplit_44 (by decide) ?_
  have h9 := Option.some.inj h
  have e9 : (1 : Int32) = r0 := congrArg (fun z9 => z9) h9
  rw [← e9]
  exact k_zret hx hb hr hlocks hP hS rfl rfl dX6_isSplit_48

/-! X6_with -/
set_option maxHeartbeats 4000000 in
set_option maxRecDepth 100000 in
theorem c_X6_with (l : Launch) (G : va_G) (cI cJ cD cH : ClassId) (sz : Nat) (p0 : Int64) (p1 : Int32) (r0 : Int64) (hF : F_X6_with p0 p1 = some r0) : Met l yX6_with wsX6_with ({ frames := 0, cells := 0, slots := 0, locals := 0 }) (k_pre G (k_T cI cJ cD cH) [] sz [.long p0, .int p1]) (va_Ql (fun r (_ : Unit) => r = r0 ∧ True) (fun _ t => va_P G vwCl [] t.heap) (va_A [] sz)) 0 0 (va_A [] sz) := by
  refine Met.ofW (cc := cX6_with) (maxL := 3) (ret := (some .long)) (by decide) rfl ?_
  intro p e s m args below meth c s₁ B hml hv
  obtain ⟨rfl, hsz, hP, hK, hD0⟩ := hv
  have hx := B.exec
  have hb := B.bytes
  have hr := B.returns
  have hts := atoms_spec (ws := wsX6_with) B.pre
  have hta : ∀ w ∈ wA, w.before ([.long p0, .int p1] : List Value).toArray s = true := hta_of hts
  have hown : s.vm.findClass RX6 = some m.cls := findClass_of_methodNamed B.named
  have hlocks := B.notSynchronized
  subst hsz
  have hD := hD0.self (sz := s.heap.size)
  generalize hAe : va_A [] s.heap.size = A at hD ⊢
  have hA : ∀ q : Nat, s.heap.size ≤ q → A q := fun q h => by rw [← hAe]; exact Or.inr h
  have hS : va_S A s.heap s.heap [] := va_S.rf
  have hl := lv_entry ([.long p0, .int p1]) (n := 3) (Nat.le_of_ble_eq_true rfl)
  rw [lg_entry_eq]
  generalize (lg_sl ([.long p0, .int p1]) ++ List.replicate (3 - (lg_sl ([.long p0, .int p1])).length) Slot.unset).toArray = ls at hl ⊢
  have hl : lv_has ls 3 [(0, .long p0), (2, .int p1)] := hl
  have h := hF
  unfold F_X6_with at h
  refine lv_iload_n hx hb dX6_with_0 rfl (lv_at hl 1 rfl) ?_
  refine lv_if_lt (tgt := 18) hx hb dX6_with_1 (by decide) (fun c1 => ?_) (fun c1 => ?_)
  · have h := it_p h c1
    refine lv_lload_n hx hb dX6_with_18 rfl (lv_at hl 0 rfl) ?_
    have h9 := Option.some.inj h
    have e9 : p0 = r0 := congrArg (fun z9 => z9) h9
    rw [← e9]
    exact k_lret hx hb hr hlocks hP hS rfl dX6_with_19
  have h := it_n h c1
  refine lv_iload_n hx hb dX6_with_4 rfl (lv_at hl 1 rfl) ?_
  refine lv_bipush (v := (63 : Int32)) hx hb dX6_with_5 (by decide) ?_
  refine lv_icmp_gt (tgt := 18) hx hb dX6_with_7 (by decide) (fun c2 => ?_) (fun c2 => ?_)
  · have h := it_p h c2
    refine lv_lload_n hx hb dX6_with_18 rfl (lv_at hl 0 rfl) ?_
    have h9 := Option.some.inj h
    have e9 : p0 = r0 := congrArg (fun z9 => z9) h9
    rw [← e9]
    exact k_lret hx hb hr hlocks hP hS rfl dX6_with_19
  have h := it_n h c2
  refine lv_lload_n hx hb dX6_with_10 rfl (lv_at hl 0 rfl) ?_
  refine lv_lconst (v := (1 : Int64)) hx hb dX6_with_11 (by decide) ?_
  refine lv_iload_n hx hb dX6_with_12 rfl (lv_at hl 1 rfl) ?_
  refine lv_lshl (v := (lshl (1 : Int64) p1)) hx hb dX6_with_13 rfl ?_
  refine lv_lor hx hb dX6_with_14 ?_
  refine lv_goto (tgt := 19) hx hb dX6_with_15 (by decide) ?_
  have h9 := Option.some.inj h
  have e9 : (p0 ||| (lshl (1 : Int64) p1)) = r0 := congrArg (fun z9 => z9) h9
  rw [← e9]
  exact k_lret hx hb hr hlocks hP hS rfl dX6_with_19

/-! X6_goTogether -/
set_option maxHeartbeats 4000000 in
set_option maxRecDepth 100000 in
theorem c_X6_goTogether (l : Launch) (G : va_G) (cI cJ cD cH : ClassId) (sz : Nat) (p0 : Int32) (p1 : Int32) (r0 : Int32) (hF : F_X6_goTogether p0 p1 = some r0) : Met l yX6_goTogether wsX6_goTogether ({ frames := 0, cells := 0, slots := 0, locals := 0 }) (k_pre G (k_T cI cJ cD cH) [] sz [.int p0, .int p1]) (va_Qi (fun r (_ : Unit) => r = r0 ∧ narrow .boolean (.int r0) = .int r0) (fun _ t => va_P G vwCl [] t.heap) (va_A [] sz)) 0 0 (va_A [] sz) := by
  refine Met.ofW (cc := cX6_goTogether) (maxL := 3) (ret := (some .boolean)) (by decide) rfl ?_
  intro p e s m args below meth c s₁ B hml hv
  obtain ⟨rfl, hsz, hP, hK, hD0⟩ := hv
  have hx := B.exec
  have hb := B.bytes
  have hr := B.returns
  have hts := atoms_spec (ws := wsX6_goTogether) B.pre
  have hta : ∀ w ∈ wA, w.before ([.int p0, .int p1] : List Value).toArray s = true := hta_of hts
  have hown : s.vm.findClass RX6 = some m.cls := findClass_of_methodNamed B.named
  have hlocks := B.notSynchronized
  subst hsz
  have hD := hD0.self (sz := s.heap.size)
  generalize hAe : va_A [] s.heap.size = A at hD ⊢
  have hA : ∀ q : Nat, s.heap.size ≤ q → A q := fun q h => by rw [← hAe]; exact Or.inr h
  have hS : va_S A s.heap s.heap [] := va_S.rf
  have hl := lv_entry ([.int p0, .int p1]) (n := 3) (Nat.le_of_ble_eq_true rfl)
  rw [lg_entry_eq]
  generalize (lg_sl ([.int p0, .int p1]) ++ List.replicate (3 - (lg_sl ([.int p0, .int p1])).length) Slot.unset).toArray = ls at hl ⊢
  have hl : lv_has ls 3 [(0, .int p0), (1, .int p1)] := hl
  have h := hF
  unfold F_X6_goTogether at h
  refine lv_iload_n hx hb dX6_goTogether_0 rfl (lv_at hl 0 rfl) ?_
  refine lv_iload_n hx hb dX6_goTogether_1 rfl (lv_at hl 1 rfl) ?_
  refine lv_iand hx hb dX6_goTogether_2 ?_
  refine lv_istore_n (lv' := [(2, .int (p0 &&& p1)), (0, .int p0), (1, .int p1)]) hx hb dX6_goTogether_3 rfl hl (by decide) rfl (fun ls hl => ?_)
  refine lv_iload_n hx hb dX6_goTogether_4 rfl (lv_at hl 0 rfl) ?_
  refine lv_if_eq (tgt := 18) hx hb dX6_goTogether_5 (by decide) (fun c1 => ?_) (fun c1 => ?_)
  · have h := it_p h c1
    refine lv_iconst (v := (1 : Int32)) hx hb dX6_goTogether_18 (by decide) ?_
    refine lv_goto (tgt := 23) hx hb dX6_goTogether_19 (by decide) ?_
    have h9 := Option.some.inj h
    have e9 : (1 : Int32) = r0 := congrArg (fun z9 => z9) h9
    rw [← e9]
    exact k_zret hx hb hr hlocks hP hS rfl rfl dX6_goTogether_23
  have h := it_n h c1
  refine lv_iload_n hx hb dX6_goTogether_8 rfl (lv_at hl 0 rfl) ?_
  refine lv_iload_n hx hb dX6_goTogether_9 rfl (lv_at hl 1 rfl) ?_
  refine lv_icmp_eq (tgt := 18) hx hb dX6_goTogether_10 (by decide) (fun c2 => ?_) (fun c2 => ?_)
  · have h := it_p h c2
    refine lv_iconst (v := (1 : Int32)) hx hb dX6_goTogether_18 (by decide) ?_
    refine lv_goto (tgt := 23) hx hb dX6_goTogether_19 (by decide) ?_
    have h9 := Option.some.inj h
    have e9 : (1 : Int32) = r0 := congrArg (fun z9 => z9) h9
    rw [← e9]
    exact k_zret hx hb hr hlocks hP hS rfl rfl dX6_goTogether_23
  have h := it_n h c2
  refine lv_iload_n hx hb dX6_goTogether_13 rfl (lv_at hl 0 rfl) ?_
  refine lv_iload_n hx hb dX6_goTogether_14 rfl (lv_at hl 2 rfl) ?_
  refine lv_icmp_ne (tgt := 22) hx hb dX6_goTogether_15 (by decide) (fun c3 => ?_) (fun c3 => ?_)
  · have h := it_n h c3
    refine lv_iconst (v := (0 : Int32)) hx hb dX6_goTogether_22 (by decide) ?_
    have h9 := Option.some.inj h
    have e9 : (0 : Int32) = r0 := congrArg (fun z9 => z9) h9
    rw [← e9]
    exact k_zret hx hb hr hlocks hP hS rfl rfl dX6_goTogether_23
  have h := it_p h c3
  refine lv_iconst (v := (1 : Int32)) hx hb dX6_goTogether_18 (by decide) ?_
  refine lv_goto (tgt := 23) hx hb dX6_goTogether_19 (by decide) ?_
  have h9 := Option.some.inj h
  have e9 : (1 : Int32) = r0 := congrArg (fun z9 => z9) h9
  rw [← e9]
  exact k_zret hx hb hr hlocks hP hS rfl rfl dX6_goTogether_23

/-! X6_fits -/
set_option maxHeartbeats 4000000 in
set_option maxRecDepth 100000 in
theorem c_X6_fits (l : Launch) (G : va_G) (cI cJ cD cH : ClassId) (sz : Nat) (p0 : Int64) (p1 : Int32) (r0 : Int32) (hF : F_X6_fits p0 p1 = some r0) : Met l yX6_fits wsX6_fits ({ frames := 2, cells := 0, slots := 0, locals := 46 }) (k_pre G (k_T cI cJ cD cH) [] sz [.long p0, .int p1]) (va_Qi (fun r (_ : Unit) => r = r0 ∧ narrow .boolean (.int r0) = .int r0) (fun _ t => va_P G vwCl [] t.heap) (va_A [] sz)) 0 0 (va_A [] sz) := by
  refine Met.ofW (cc := cX6_fits) (maxL := 6) (ret := (some .boolean)) (by decide) rfl ?_
  intro p e s m args below meth c s₁ B hml hv
  obtain ⟨rfl, hsz, hP, hK, hD0⟩ := hv
  have hx := B.exec
  have hb := B.bytes
  have hr := B.returns
  have hts := atoms_spec (ws := wsX6_fits) B.pre
  have hta : ∀ w ∈ wA, w.before ([.long p0, .int p1] : List Value).toArray s = true := hta_of hts
  have hown : s.vm.findClass RX6 = some m.cls := findClass_of_methodNamed B.named
  have hlocks := B.notSynchronized
  subst hsz
  have hD := hD0.self (sz := s.heap.size)
  generalize hAe : va_A [] s.heap.size = A at hD ⊢
  have hA : ∀ q : Nat, s.heap.size ≤ q → A q := fun q h => by rw [← hAe]; exact Or.inr h
  have hS : va_S A s.heap s.heap [] := va_S.rf
  have hl := lv_entry ([.long p0, .int p1]) (n := 6) (Nat.le_of_ble_eq_true rfl)
  rw [lg_entry_eq]
  generalize (lg_sl ([.long p0, .int p1]) ++ List.replicate (6 - (lg_sl ([.long p0, .int p1])).length) Slot.unset).toArray = ls at hl ⊢
  have hl : lv_has ls 6 [(0, .long p0), (2, .int p1)] := hl
  have h := hF
  unfold F_X6_fits at h
  refine lv_lload_n hx hb dX6_fits_0 rfl (lv_at hl 0 rfl) ?_
  obtain ⟨x1, hx1, h⟩ := bd_e h
  try dsimp only at h
  refine k_SiU (n := 1) (As := [.long p0]) (rest := []) hx hb hml hown hts (c_X6_sizeOf l G cI cJ cD cH s.heap.size p0 x1 hx1) gX6_fits_X6_sizeOf rfl rfl rfl (by decide +kernel) ⟨by first | exact Nat.le_of_ble_eq_true rfl | (simp only [headSpec]; omega), by first | exact Nat.le_of_ble_eq_true rfl | (simp only [headSpec]; omega)⟩ hK hP hD hS hA [] (by decide) rfl rfl rfl hl.1 (Nat.le_of_ble_eq_true rfl) dX6_fits_1 ⟨Nat.zero_le _, Nat.zero_le _⟩ (fun hp1 H locs hP hS => ?_)
  refine lv_istore_n (lv' := [(3, .int x1), (0, .long p0), (2, .int p1)]) hx hb dX6_fits_4 rfl hl (by decide) rfl (fun ls hl => ?_)
  refine lv_iconst (v := (0 : Int32)) hx hb dX6_fits_5 (by decide) ?_
  refine lv_istore (lv' := [(4, .int (0 : Int32)), (3, .int x1), (0, .long p0), (2, .int p1)]) hx hb dX6_fits_6 hl (by decide) rfl (fun ls hl => ?_)
  have hK_X6_fits_8_45 : ∀ (H : Heap) (locs : List Loc) (ls : Array Slot), va_P G vwCl [] H → va_D A [] → va_S A s.heap H locs → lv_has ls 6 [] → K_X6_fits_8_45 = some r0 → W p l e (headSpec wsX6_fits ({ frames := 2, cells := 0, slots := 0, locals := 46 })).room s m ([.long p0, .int p1] : List Value).toArray below meth c H locs 0 0 (MQ below (va_Qi (fun r (_ : Unit) => r = r0 ∧ narrow .boolean (.int r0) = .int r0) (fun _ t => va_P G vwCl [] t.heap) A) ([.long p0, .int p1] : List Value).toArray s 0 0 A) (F0 m 45 ls []) := by
    intro  H locs ls hP hD hS hl h
    unfold K_X6_fits_8_45 at h
    refine lv_iconst (v := (1 : Int32)) hx hb dX6_fits_45 (by decide) ?_
    have h9 := Option.some.inj h
    have e9 : (1 : Int32) = r0 := congrArg (fun z9 => z9) h9
    rw [← e9]
    exact k_zret hx hb hr hlocks hP hS rfl rfl dX6_fits_46
  have hL8 : ∀ (n8 : Nat) (vL8_0 : Int32) (H : Heap) (locs : List Loc) (ls : Array Slot), va_P G vwCl [] H → va_D A [] → va_S A s.heap H locs → lv_has ls 6 [(0, .long p0), (2, .int p1), (3, .int x1), (4, .int vL8_0)] → wq1 (B_X6_fits_8 p0 p1 x1 K_X6_fits_8_45) n8 vL8_0 = some r0 → W p l e (headSpec wsX6_fits ({ frames := 2, cells := 0, slots := 0, locals := 46 })).room s m ([.long p0, .int p1] : List Value).toArray below meth c H locs 0 0 (MQ below (va_Qi (fun r (_ : Unit) => r = r0 ∧ narrow .boolean (.int r0) = .int r0) (fun _ t => va_P G vwCl [] t.heap) A) ([.long p0, .int p1] : List Value).toArray s 0 0 A) (F0 m 8 ls []) := by
    intro n8
    induction n8 with
    | zero => intro vL8_0 H locs ls hP hD hS hl h; exact wq1_0 h
    | succ n8 ih8 =>
      intro vL8_0 H locs ls hP hD hS hl h
      have h := wq1_s h
      unfold B_X6_fits_8 at h
      refine lv_iload hx hb dX6_fits_8 (lv_at hl 3 rfl) ?_
      refine lv_iload_n hx hb dX6_fits_10 rfl (lv_at hl 2 rfl) ?_
      refine lv_icmp_ge (tgt := 45) hx hb dX6_fits_11 (by decide) (fun c2 => ?_) (fun c2 => ?_)
      · have h := it_p h c2
        exact hK_X6_fits_8_45  _ _ _ hP hD hS (lv_sub hl [] rfl) h
      have h := it_n h c2
      refine lv_lload_n hx hb dX6_fits_14 rfl (lv_at hl 0 rfl) ?_
      refine lv_iload hx hb dX6_fits_15 (lv_at hl 3 rfl) ?_
      obtain ⟨x3, hx3, h⟩ := bd_e h
      try dsimp only at h
      refine k_SiU (n := 2) (As := [.long p0, .int vL8_0]) (rest := []) hx hb hml hown hts (c_X6_nth l G cI cJ cD cH H.size p0 vL8_0 x3 hx3) gX6_fits_X6_nth rfl rfl rfl (by decide +kernel) ⟨by first | exact Nat.le_of_ble_eq_true rfl | (simp only [headSpec]; omega), by first | exact Nat.le_of_ble_eq_true rfl | (simp only [headSpec]; omega)⟩ hK hP hD hS hA [] (by decide) rfl rfl rfl hl.1 (Nat.le_of_ble_eq_true rfl) dX6_fits_17 ⟨Nat.zero_le _, Nat.zero_le _⟩ (fun hp3 H locs hP hS => ?_)
      refine lv_istore (lv' := [(5, .int x3), (0, .long p0), (2, .int p1), (3, .int x1), (4, .int vL8_0)]) hx hb dX6_fits_20 hl (by decide) rfl (fun ls hl => ?_)
      refine lv_iload_n hx hb dX6_fits_22 rfl (lv_at hl 2 rfl) ?_
      refine lv_iload hx hb dX6_fits_23 (lv_at hl 0 rfl) ?_
      refine lv_icmp_eq (tgt := 37) hx hb dX6_fits_25 (by decide) (fun c4 => ?_) (fun c4 => ?_)
      · have h := it_p h c4
        refine lv_iconst (v := (0 : Int32)) hx hb dX6_fits_37 (by decide) ?_
        have h9 := Option.some.inj h
        have e9 : (0 : Int32) = r0 := congrArg (fun z9 => z9) h9
        rw [← e9]
        exact k_zret hx hb hr hlocks hP hS rfl rfl dX6_fits_38
      have h := it_n h c4
      refine lv_iload_n hx hb dX6_fits_28 rfl (lv_at hl 2 rfl) ?_
      refine lv_iload hx hb dX6_fits_29 (lv_at hl 0 rfl) ?_
      obtain ⟨x5, hx5, h⟩ := bd_e h
      try dsimp only at h
      refine k_SiU (n := 2) (As := [.int p1, .int x3]) (rest := []) hx hb hml hown hts (c_X6_goTogether l G cI cJ cD cH H.size p1 x3 x5 hx5) gX6_fits_X6_goTogether rfl rfl rfl (by decide +kernel) ⟨by first | exact Nat.le_of_ble_eq_true rfl | (simp only [headSpec]; omega), by first | exact Nat.le_of_ble_eq_true rfl | (simp only [headSpec]; omega)⟩ hK hP hD hS hA [] (by decide) rfl rfl rfl hl.1 (Nat.le_of_ble_eq_true rfl) dX6_fits_31 ⟨Nat.zero_le _, Nat.zero_le _⟩ (fun hp5 H locs hP hS => ?_)
      refine lv_if_ne (tgt := 39) hx hb dX6_fits_34 (by decide) (fun c6 => ?_) (fun c6 => ?_)
      · have h := it_n h c6
        refine lv_iinc (v := (vL8_0 + (1 : Int32))) (lv' := [(4, .int (vL8_0 + (1 : Int32))), (5, .int x3), (0, .long p0), (2, .int p1), (3, .int x1)]) hx hb dX6_fits_39 hl (k := 4) rfl (by first | rfl | decide) (by decide) rfl (fun ls hl => ?_)
        refine lv_goto (tgt := 8) hx hb dX6_fits_42 (by decide) ?_
        exact ih8 (vL8_0 + (1 : Int32)) _ _ _ hP hD hS (lv_sub hl [2, 3, 4, 0] rfl) h
      have h := it_p h c6
      refine lv_iconst (v := (0 : Int32)) hx hb dX6_fits_37 (by decide) ?_
      have h9 := Option.some.inj h
      have e9 : (0 : Int32) = r0 := congrArg (fun z9 => z9) h9
      rw [← e9]
      exact k_zret hx hb hr hlocks hP hS rfl rfl dX6_fits_38
  exact hL8 FU (0 : Int32) _ _ _ hP hD hS (lv_sub hl [2, 3, 1, 0] rfl) h

/-! X4_readSplit -/
set_option maxHeartbeats 4000000 in
set_option maxRecDepth 100000 in
theorem tJ_X4_readSplit_145 {l : Launch} {G : va_G} {cI cJ cD cH : ClassId} {h_t : Nat} {h_t_tape : Nat} {h_t_tape_bytes : Nat} {h_t_told : Nat} {h_t_causes : Nat} {h_t_told_powers : Nat} {t_refused : Int32} {t_place : Int32} {t_cannotBe : Int32} {t_tape_size : Int32} {a_t_tape_bytes : Nat → Int32} {t_told_genus : Int32} {t_told_size : Int32} {t_told_limit : Int32} {t_told_tree : Int64} {r0 : Int32} {w0 : Int32} {w1 : Int32} {w2 : Int64} {vK12_84_0 : Int32} {p : Program} {e : Env} {s : State} {m : MethodId} {below : List Frame} {meth : Method} {c : Code} {A : Nat → Prop} (hx : p.tables.exec = Jvm.exec) (hb : c.code = cX4_readSplit) (hr : meth.sig.returnType = (some .boolean)) (hml : c.maxLocals = 5) (hts : ∀ w ∈ wsX4_readSplit, w.before ([.ref h_t] : List Value).toArray s = true) (hown : s.vm.findClass RX4 = some m.cls) (hlocks : meth.locks = false) (hK : va_K G vwCl (k_T cI cJ cD cH) s) (hA : ∀ q : Nat, s.heap.size ≤ q → A q) : ∀ (H : Heap) (locs : List Loc) (ls : Array Slot), va_P G vwCl [(h_t, .inr (4, [.ref h_t_tape, .ref h_t_told, .ref h_t_causes, .int t_refused, .int vK12_84_0, .int t_cannotBe])), (h_t_tape, .inr (6, [.ref h_t_tape_bytes, .int t_tape_size])), (h_t_tape_bytes, .inl (cI, 60, .inl a_t_tape_bytes)), (h_t_told, .inr (1, [.int t_told_genus, .int t_told_size, .ref h_t_told_powers, .int t_told_limit, .long t_told_tree]))] H → va_D A [(h_t, .inr (4, [.ref h_t_tape, .ref h_t_told, .ref h_t_causes, .int t_refused, .int vK12_84_0, .int t_cannotBe])), (h_t_tape, .inr (6, [.ref h_t_tape_bytes, .int t_tape_size])), (h_t_tape_bytes, .inl (cI, 60, .inl a_t_tape_bytes)), (h_t_told, .inr (1, [.int t_told_genus, .int t_told_size, .ref h_t_told_powers, .int t_told_limit, .long t_told_tree]))] → va_S A s.heap H locs → lv_has ls 5 [(0, .ref h_t), (1, .int t_place)] → J_X4_readSplit_145 t_place t_cannotBe t_told_tree vK12_84_0 = some (r0, w0, w1, w2) → W p l e (headSpec wsX4_readSplit ({ frames := 3, cells := 0, slots := 0, locals := 71 })).room s m ([.ref h_t] : List Value).toArray below meth c H locs 0 0 (MQ below (va_Qi (fun r (_ : Unit) => r = r0 ∧ narrow .boolean (.int r0) = .int r0) (fun _ t => va_P G vwCl [(h_t, .inr (4, [.ref h_t_tape, .ref h_t_told, .ref h_t_causes, .int t_refused, .int w0, .int w1])), (h_t_tape, .inr (6, [.ref h_t_tape_bytes, .int t_tape_size])), (h_t_tape_bytes, .inl (cI, 60, .inl a_t_tape_bytes)), (h_t_told, .inr (1, [.int t_told_genus, .int t_told_size, .ref h_t_told_powers, .int t_told_limit, .long w2]))] t.heap) A) ([.ref h_t] : List Value).toArray s 0 0 A) (F0 m 145 ls []) := by
  have hta : ∀ w ∈ wA, w.before ([.ref h_t] : List Value).toArray s = true := hta_of hts
  have hinX1 : ∀ w ∈ wsX10, w ∈ wsX4_readSplit := hin_of in_X1
  have hinX4 : ∀ w ∈ wsX40, w ∈ wsX4_readSplit := hin_of in_X4
  intro  H locs ls hP hD hS hl h
  unfold J_X4_readSplit_145 at h
  refine lv_aload_n hx hb dX4_readSplit_145 rfl (lv_at hl 0 rfl) ?_
  refine lv_iload_n hx hb dX4_readSplit_146 rfl (lv_at hl 1 rfl) ?_
  obtain ⟨x3, hx3, h⟩ := bd_e h
  try dsimp only at h
  refine k_VvM (n := 1) (As := [.int t_place]) (rest := []) hx hb hml hown hts (c_X4_noteCannotBe l G cI cJ cD cH H.size h_t h_t_tape h_t_told h_t_causes t_refused vK12_84_0 t_cannotBe t_place x3 hx3) gX4_readSplit_X4_noteCannotBe rfl rfl rfl (by decide +kernel) ⟨by first | exact Nat.le_of_ble_eq_true rfl | (simp only [headSpec]; omega), by first | exact Nat.le_of_ble_eq_true rfl | (simp only [headSpec]; omega)⟩ hK hP hD hS hA [0] (by decide) rfl rfl (ci := 4) rfl rfl rfl rfl rfl hl.1 (Nat.le_of_ble_eq_true rfl) dX4_readSplit_147 ⟨Nat.zero_le _, Nat.zero_le _⟩ [(h_t, .inr (4, [.ref h_t_tape, .ref h_t_told, .ref h_t_causes, .int t_refused, .int vK12_84_0, .int x3])), (h_t_tape, .inr (6, [.ref h_t_tape_bytes, .int t_tape_size])), (h_t_tape_bytes, .inl (cI, 60, .inl a_t_tape_bytes)), (h_t_told, .inr (1, [.int t_told_genus, .int t_told_size, .ref h_t_told_powers, .int t_told_limit, .long t_told_tree]))] [1, 0, 0, 0] 1 (by decide +kernel) rfl rfl rfl (fun hp3 H locs hP hD hS => ?_)
  refine lv_iconst (v := (1 : Int32)) hx hb dX4_readSplit_150 (by decide) ?_
  have h9 := Option.some.inj h
  have e9 : (1 : Int32) = r0 := congrArg (fun z9 => z9.1) h9
  rw [← e9]
  have e9 : vK12_84_0 = w0 := congrArg (fun z9 => z9.2.1) h9
  rw [← e9]
  have e9 : x3 = w1 := congrArg (fun z9 => z9.2.2.1) h9
  rw [← e9]
  have e9 : t_told_tree = w2 := congrArg (fun z9 => z9.2.2.2) h9
  rw [← e9]
  exact k_zret hx hb hr hlocks hP hS rfl rfl dX4_readSplit_151
set_option maxHeartbeats 4000000 in
set_option maxRecDepth 100000 in
theorem tK_X4_readSplit_12_84 {l : Launch} {G : va_G} {cI cJ cD cH : ClassId} {h_t : Nat} {h_t_tape : Nat} {h_t_tape_bytes : Nat} {h_t_told : Nat} {h_t_causes : Nat} {h_t_told_powers : Nat} {t_refused : Int32} {t_place : Int32} {t_cannotBe : Int32} {t_tape_size : Int32} {a_t_tape_bytes : Nat → Int32} {t_told_genus : Int32} {t_told_size : Int32} {t_told_limit : Int32} {t_told_tree : Int64} {r0 : Int32} {w0 : Int32} {w1 : Int32} {w2 : Int64} {p : Program} {e : Env} {s : State} {m : MethodId} {below : List Frame} {meth : Method} {c : Code} {A : Nat → Prop} (hx : p.tables.exec = Jvm.exec) (hb : c.code = cX4_readSplit) (hr : meth.sig.returnType = (some .boolean)) (hml : c.maxLocals = 5) (hts : ∀ w ∈ wsX4_readSplit, w.before ([.ref h_t] : List Value).toArray s = true) (hown : s.vm.findClass RX4 = some m.cls) (hlocks : meth.locks = false) (hK : va_K G vwCl (k_T cI cJ cD cH) s) (hA : ∀ q : Nat, s.heap.size ≤ q → A q) : ∀  (vK12_84_0 : Int32) (vK12_84_1 : Int32) (H : Heap) (locs : List Loc) (ls : Array Slot), va_P G vwCl [(h_t, .inr (4, [.ref h_t_tape, .ref h_t_told, .ref h_t_causes, .int t_refused, .int vK12_84_0, .int t_cannotBe])), (h_t_tape, .inr (6, [.ref h_t_tape_bytes, .int t_tape_size])), (h_t_tape_bytes, .inl (cI, 60, .inl a_t_tape_bytes)), (h_t_told, .inr (1, [.int t_told_genus, .int t_told_size, .ref h_t_told_powers, .int t_told_limit, .long t_told_tree]))] H → va_D A [(h_t, .inr (4, [.ref h_t_tape, .ref h_t_told, .ref h_t_causes, .int t_refused, .int vK12_84_0, .int t_cannotBe])), (h_t_tape, .inr (6, [.ref h_t_tape_bytes, .int t_tape_size])), (h_t_tape_bytes, .inl (cI, 60, .inl a_t_tape_bytes)), (h_t_told, .inr (1, [.int t_told_genus, .int t_told_size, .ref h_t_told_powers, .int t_told_limit, .long t_told_tree]))] → va_S A s.heap H locs → lv_has ls 5 [(0, .ref h_t), (1, .int t_place), (3, .int vK12_84_1)] → K_X4_readSplit_12_84 t_place t_cannotBe t_told_limit t_told_tree vK12_84_0 vK12_84_1 = some (r0, w0, w1, w2) → W p l e (headSpec wsX4_readSplit ({ frames := 3, cells := 0, slots := 0, locals := 71 })).room s m ([.ref h_t] : List Value).toArray below meth c H locs 0 0 (MQ below (va_Qi (fun r (_ : Unit) => r = r0 ∧ narrow .boolean (.int r0) = .int r0) (fun _ t => va_P G vwCl [(h_t, .inr (4, [.ref h_t_tape, .ref h_t_told, .ref h_t_causes, .int t_refused, .int w0, .int w1])), (h_t_tape, .inr (6, [.ref h_t_tape_bytes, .int t_tape_size])), (h_t_tape_bytes, .inl (cI, 60, .inl a_t_tape_bytes)), (h_t_told, .inr (1, [.int t_told_genus, .int t_told_size, .ref h_t_told_powers, .int t_told_limit, .long w2]))] t.heap) A) ([.ref h_t] : List Value).toArray s 0 0 A) (F0 m 84 ls []) := by
  have hta : ∀ w ∈ wA, w.before ([.ref h_t] : List Value).toArray s = true := hta_of hts
  have hinX1 : ∀ w ∈ wsX10, w ∈ wsX4_readSplit := hin_of in_X1
  have hinX4 : ∀ w ∈ wsX40, w ∈ wsX4_readSplit := hin_of in_X4
  intro vK12_84_0 vK12_84_1 H locs ls hP hD hS hl h
  unfold K_X4_readSplit_12_84 at h
  refine lv_aload_n hx hb dX4_readSplit_84 rfl (lv_at hl 0 rfl) ?_
  refine va_get (D := G) (ci := 4) (v := .int vK12_84_0) (C := RX4) (T := TX4) (N := 6) hx hb hts hinX4 hown hK hP 0 rfl rfl 4 (by decide) (hta _ mw_189) (fun _ h9 => h9) rfl dX4_readSplit_85 ?_
  refine lv_iload_n hx hb dX4_readSplit_88 rfl (lv_at hl 1 rfl) ?_
  refine lv_isub hx hb dX4_readSplit_89 ?_
  refine lv_iconst (v := (2 : Int32)) hx hb dX4_readSplit_90 (by decide) ?_
  refine lv_icmp_ge (tgt := 96) hx hb dX4_readSplit_91 (by decide) (fun c1 => ?_) (fun c1 => ?_)
  rotate_left
  · have h := it_n h c1
    refine lv_iconst (v := (0 : Int32)) hx hb dX4_readSplit_94 (by decide) ?_
    have h9 := Option.some.inj h
    have e9 : (0 : Int32) = r0 := congrArg (fun z9 => z9.1) h9
    rw [← e9]
    have e9 : vK12_84_0 = w0 := congrArg (fun z9 => z9.2.1) h9
    rw [← e9]
    have e9 : t_cannotBe = w1 := congrArg (fun z9 => z9.2.2.1) h9
    rw [← e9]
    have e9 : t_told_tree = w2 := congrArg (fun z9 => z9.2.2.2) h9
    rw [← e9]
    exact k_zret hx hb hr hlocks hP hS rfl rfl dX4_readSplit_95
  have h := it_p h c1
  refine lv_iload_n hx hb dX4_readSplit_96 rfl (lv_at hl 2 rfl) ?_
  refine lv_aload_n hx hb dX4_readSplit_97 rfl (lv_at hl 0 rfl) ?_
  refine va_get (D := G) (ci := 4) (v := .ref h_t_told) (C := RX4) (T := TX4) (N := 6) hx hb hts hinX4 hown hK hP 0 rfl rfl 1 (by decide) (hta _ mw_179) (fun _ h9 => h9) rfl dX4_readSplit_98 ?_
  refine va_get (D := G) (ci := 1) (v := .int t_told_limit) (C := RX1) (T := TX1) (N := 5) hx hb hts hinX1 hown hK hP 3 rfl rfl 3 (by decide) (hta _ mw_241) (fun _ h9 => h9) rfl dX4_readSplit_101 ?_
  obtain ⟨x2, hx2, h⟩ := bd_e h
  try dsimp only at h
  refine k_SiU (n := 2) (As := [.int vK12_84_1, .int t_told_limit]) (rest := []) hx hb hml hown hts (c_X6_isSplit l G cI cJ cD cH H.size vK12_84_1 t_told_limit x2 hx2) gX4_readSplit_X6_isSplit rfl rfl rfl (by decide +kernel) ⟨by first | exact Nat.le_of_ble_eq_true rfl | (simp only [headSpec]; omega), by first | exact Nat.le_of_ble_eq_true rfl | (simp only [headSpec]; omega)⟩ hK hP hD hS hA [] (by decide) rfl rfl rfl hl.1 (Nat.le_of_ble_eq_true rfl) dX4_readSplit_104 ⟨Nat.zero_le _, Nat.zero_le _⟩ (fun hp2 H locs hP hS => ?_)
  refine lv_if_eq (tgt := 145) hx hb dX4_readSplit_107 (by decide) (fun c4 => ?_) (fun c4 => ?_)
  · have h := it_p h c4
    exact tJ_X4_readSplit_145 hx hb hr hml hts hown hlocks hK hA  _ _ _ hP hD hS (lv_sub hl [0, 1] rfl) h
  have h := it_n h c4
  refine lv_aload_n hx hb dX4_readSplit_110 rfl (lv_at hl 0 rfl) ?_
  refine va_get (D := G) (ci := 4) (v := .ref h_t_told) (C := RX4) (T := TX4) (N := 6) hx hb hts hinX4 hown hK hP 0 rfl rfl 1 (by decide) (hta _ mw_179) (fun _ h9 => h9) rfl dX4_readSplit_111 ?_
  refine va_get (D := G) (ci := 1) (v := .long t_told_tree) (C := RX1) (T := TX1) (N := 5) hx hb hts hinX1 hown hK hP 3 rfl rfl 4 (by decide) (hta _ mw_242) (fun _ h9 => h9) rfl dX4_readSplit_114 ?_
  refine lv_iload_n hx hb dX4_readSplit_117 rfl (lv_at hl 2 rfl) ?_
  obtain ⟨x5, hx5, h⟩ := bd_e h
  try dsimp only at h
  refine k_SiU (n := 2) (As := [.long t_told_tree, .int vK12_84_1]) (rest := []) hx hb hml hown hts (c_X6_fits l G cI cJ cD cH H.size t_told_tree vK12_84_1 x5 hx5) gX4_readSplit_X6_fits rfl rfl rfl (by decide +kernel) ⟨by first | exact Nat.le_of_ble_eq_true rfl | (simp only [headSpec]; omega), by first | exact Nat.le_of_ble_eq_true rfl | (simp only [headSpec]; omega)⟩ hK hP hD hS hA [] (by decide) rfl rfl rfl hl.1 (Nat.le_of_ble_eq_true rfl) dX4_readSplit_118 ⟨Nat.zero_le _, Nat.zero_le _⟩ (fun hp5 H locs hP hS => ?_)
  refine lv_if_eq (tgt := 145) hx hb dX4_readSplit_121 (by decide) (fun c6 => ?_) (fun c6 => ?_)
  · have h := it_p h c6
    exact tJ_X4_readSplit_145 hx hb hr hml hts hown hlocks hK hA  _ _ _ hP hD hS (lv_sub hl [0, 1] rfl) h
  have h := it_n h c6
  refine lv_aload_n hx hb dX4_readSplit_124 rfl (lv_at hl 0 rfl) ?_
  refine va_get (D := G) (ci := 4) (v := .ref h_t_told) (C := RX4) (T := TX4) (N := 6) hx hb hts hinX4 hown hK hP 0 rfl rfl 1 (by decide) (hta _ mw_179) (fun _ h9 => h9) rfl dX4_readSplit_125 ?_
  refine lv_aload_n hx hb dX4_readSplit_128 rfl (lv_at hl 0 rfl) ?_
  refine va_get (D := G) (ci := 4) (v := .ref h_t_told) (C := RX4) (T := TX4) (N := 6) hx hb hts hinX4 hown hK hP 0 rfl rfl 1 (by decide) (hta _ mw_179) (fun _ h9 => h9) rfl dX4_readSplit_129 ?_
  refine va_get (D := G) (ci := 1) (v := .long t_told_tree) (C := RX1) (T := TX1) (N := 5) hx hb hts hinX1 hown hK hP 3 rfl rfl 4 (by decide) (hta _ mw_242) (fun _ h9 => h9) rfl dX4_readSplit_132 ?_
  refine lv_iload_n hx hb dX4_readSplit_135 rfl (lv_at hl 2 rfl) ?_
  obtain ⟨x7, hx7, h⟩ := bd_e h
  try dsimp only at h
  refine k_SlU (n := 2) (As := [.long t_told_tree, .int vK12_84_1]) (rest := [.ref h_t_told]) hx hb hml hown hts (c_X6_with l G cI cJ cD cH H.size t_told_tree vK12_84_1 x7 hx7) gX4_readSplit_X6_with rfl rfl rfl (by decide +kernel) ⟨by first | exact Nat.le_of_ble_eq_true rfl | (simp only [headSpec]; omega), by first | exact Nat.le_of_ble_eq_true rfl | (simp only [headSpec]; omega)⟩ hK hP hD hS hA [] (by decide) rfl rfl rfl hl.1 (Nat.le_of_ble_eq_true rfl) dX4_readSplit_136 ⟨Nat.zero_le _, Nat.zero_le _⟩ (fun hp7 H locs hP hS => ?_)
  refine va_put (D := G) (ci := 1) (v := .long x7) (ty := .long) (C := RX1) (T := TX1) (N := 5) hx hb hts hinX1 tyX1 tyX1_ok nmX1 hown hK hP hD hS 3 rfl rfl 4 (by decide) (hta _ mw_242) (fun _ h9 => h9) rfl (by decide +kernel) rfl rfl (Nat.le_of_ble_eq_true rfl) dX4_readSplit_139 (fun H locs hP hD hS => ?_)
  have hP : va_P G vwCl [(h_t, .inr (4, [.ref h_t_tape, .ref h_t_told, .ref h_t_causes, .int t_refused, .int vK12_84_0, .int t_cannotBe])), (h_t_tape, .inr (6, [.ref h_t_tape_bytes, .int t_tape_size])), (h_t_tape_bytes, .inl (cI, 60, .inl a_t_tape_bytes)), (h_t_told, .inr (1, [.int t_told_genus, .int t_told_size, .ref h_t_told_powers, .int t_told_limit, .long x7]))] H := hP
  have hD : va_D A [(h_t, .inr (4, [.ref h_t_tape, .ref h_t_told, .ref h_t_causes, .int t_refused, .int vK12_84_0, .int t_cannotBe])), (h_t_tape, .inr (6, [.ref h_t_tape_bytes, .int t_tape_size])), (h_t_tape_bytes, .inl (cI, 60, .inl a_t_tape_bytes)), (h_t_told, .inr (1, [.int t_told_genus, .int t_told_size, .ref h_t_told_powers, .int t_told_limit, .long x7]))] := hD
  refine lv_goto (tgt := 150) hx hb dX4_readSplit_142 (by decide) ?_
  refine lv_iconst (v := (1 : Int32)) hx hb dX4_readSplit_150 (by decide) ?_
  have h9 := Option.some.inj h
  have e9 : (1 : Int32) = r0 := congrArg (fun z9 => z9.1) h9
  rw [← e9]
  have e9 : vK12_84_0 = w0 := congrArg (fun z9 => z9.2.1) h9
  rw [← e9]
  have e9 : t_cannotBe = w1 := congrArg (fun z9 => z9.2.2.1) h9
  rw [← e9]
  have e9 : x7 = w2 := congrArg (fun z9 => z9.2.2.2) h9
  rw [← e9]
  exact k_zret hx hb hr hlocks hP hS rfl rfl dX4_readSplit_151
set_option maxHeartbeats 4000000 in
set_option maxRecDepth 100000 in
theorem c_X4_readSplit (l : Launch) (G : va_G) (cI cJ cD cH : ClassId) (sz : Nat) (h_t : Nat) (h_t_tape : Nat) (h_t_tape_bytes : Nat) (h_t_told : Nat) (h_t_causes : Nat) (h_t_told_powers : Nat) (t_refused : Int32) (t_place : Int32) (t_cannotBe : Int32) (t_tape_size : Int32) (a_t_tape_bytes : Nat → Int32) (t_told_genus : Int32) (t_told_size : Int32) (t_told_limit : Int32) (t_told_tree : Int64) (r0 : Int32) (w0 : Int32) (w1 : Int32) (w2 : Int64) (hF : F_X4_readSplit t_place t_cannotBe t_tape_size a_t_tape_bytes t_told_limit t_told_tree = some (r0, w0, w1, w2)) : Met l yX4_readSplit wsX4_readSplit ({ frames := 3, cells := 0, slots := 0, locals := 71 }) (k_pre G (k_T cI cJ cD cH) [(h_t, .inr (4, [.ref h_t_tape, .ref h_t_told, .ref h_t_causes, .int t_refused, .int t_place, .int t_cannotBe])), (h_t_tape, .inr (6, [.ref h_t_tape_bytes, .int t_tape_size])), (h_t_tape_bytes, .inl (cI, 60, .inl a_t_tape_bytes)), (h_t_told, .inr (1, [.int t_told_genus, .int t_told_size, .ref h_t_told_powers, .int t_told_limit, .long t_told_tree]))] sz [.ref h_t]) (va_Qi (fun r (_ : Unit) => r = r0 ∧ narrow .boolean (.int r0) = .int r0) (fun _ t => va_P G vwCl [(h_t, .inr (4, [.ref h_t_tape, .ref h_t_told, .ref h_t_causes, .int t_refused, .int w0, .int w1])), (h_t_tape, .inr (6, [.ref h_t_tape_bytes, .int t_tape_size])), (h_t_tape_bytes, .inl (cI, 60, .inl a_t_tape_bytes)), (h_t_told, .inr (1, [.int t_told_genus, .int t_told_size, .ref h_t_told_powers, .int t_told_limit, .long w2]))] t.heap) (va_A [(h_t, .inr (4, [.ref h_t_tape, .ref h_t_told, .ref h_t_causes, .int t_refused, .int t_place, .int t_cannotBe])), (h_t_tape, .inr (6, [.ref h_t_tape_bytes, .int t_tape_size])), (h_t_tape_bytes, .inl (cI, 60, .inl a_t_tape_bytes)), (h_t_told, .inr (1, [.int t_told_genus, .int t_told_size, .ref h_t_told_powers, .int t_told_limit, .long t_told_tree]))] sz)) 0 0 (va_A [(h_t, .inr (4, [.ref h_t_tape, .ref h_t_told, .ref h_t_causes, .int t_refused, .int t_place, .int t_cannotBe])), (h_t_tape, .inr (6, [.ref h_t_tape_bytes, .int t_tape_size])), (h_t_tape_bytes, .inl (cI, 60, .inl a_t_tape_bytes)), (h_t_told, .inr (1, [.int t_told_genus, .int t_told_size, .ref h_t_told_powers, .int t_told_limit, .long t_told_tree]))] sz) := by
  refine Met.ofW (cc := cX4_readSplit) (maxL := 5) (ret := (some .boolean)) (by decide) rfl ?_
  intro p e s m args below meth c s₁ B hml hv
  obtain ⟨rfl, hsz, hP, hK, hD0⟩ := hv
  have hx := B.exec
  have hb := B.bytes
  have hr := B.returns
  have hts := atoms_spec (ws := wsX4_readSplit) B.pre
  have hta : ∀ w ∈ wA, w.before ([.ref h_t] : List Value).toArray s = true := hta_of hts
  have hown : s.vm.findClass RX4 = some m.cls := findClass_of_methodNamed B.named
  have hlocks := B.notSynchronized
  subst hsz
  have hD := hD0.self (sz := s.heap.size)
  generalize hAe : va_A [(h_t, .inr (4, [.ref h_t_tape, .ref h_t_told, .ref h_t_causes, .int t_refused, .int t_place, .int t_cannotBe])), (h_t_tape, .inr (6, [.ref h_t_tape_bytes, .int t_tape_size])), (h_t_tape_bytes, .inl (cI, 60, .inl a_t_tape_bytes)), (h_t_told, .inr (1, [.int t_told_genus, .int t_told_size, .ref h_t_told_powers, .int t_told_limit, .long t_told_tree]))] s.heap.size = A at hD ⊢
  have hA : ∀ q : Nat, s.heap.size ≤ q → A q := fun q h => by rw [← hAe]; exact Or.inr h
  have hS : va_S A s.heap s.heap [] := va_S.rf
  have hl := lv_entry ([.ref h_t]) (n := 5) (Nat.le_of_ble_eq_true rfl)
  rw [lg_entry_eq]
  generalize (lg_sl ([.ref h_t]) ++ List.replicate (5 - (lg_sl ([.ref h_t])).length) Slot.unset).toArray = ls at hl ⊢
  have hl : lv_has ls 5 [(0, .ref h_t)] := hl
  have hinX1 : ∀ w ∈ wsX10, w ∈ wsX4_readSplit := hin_of in_X1
  have hinX4 : ∀ w ∈ wsX40, w ∈ wsX4_readSplit := hin_of in_X4
  have h := hF
  unfold F_X4_readSplit at h
  refine lv_aload_n hx hb dX4_readSplit_0 rfl (lv_at hl 0 rfl) ?_
  refine va_get (D := G) (ci := 4) (v := .int t_place) (C := RX4) (T := TX4) (N := 6) hx hb hts hinX4 hown hK hP 0 rfl rfl 4 (by decide) (hta _ mw_189) (fun _ h9 => h9) rfl dX4_readSplit_1 ?_
  refine lv_istore_n (lv' := [(1, .int t_place), (0, .ref h_t)]) hx hb dX4_readSplit_4 rfl hl (by decide) rfl (fun ls hl => ?_)
  refine lv_iconst (v := (-1 : Int32)) hx hb dX4_readSplit_5 (by decide) ?_
  refine lv_istore_n (lv' := [(2, .int (-1 : Int32)), (1, .int t_place), (0, .ref h_t)]) hx hb dX4_readSplit_6 rfl hl (by decide) rfl (fun ls hl => ?_)
  refine lv_iconst (v := (0 : Int32)) hx hb dX4_readSplit_7 (by decide) ?_
  refine lv_istore_n (lv' := [(3, .int (0 : Int32)), (2, .int (-1 : Int32)), (1, .int t_place), (0, .ref h_t)]) hx hb dX4_readSplit_8 rfl hl (by decide) rfl (fun ls hl => ?_)
  refine lv_iconst (v := (0 : Int32)) hx hb dX4_readSplit_9 (by decide) ?_
  refine lv_istore (lv' := [(4, .int (0 : Int32)), (3, .int (0 : Int32)), (2, .int (-1 : Int32)), (1, .int t_place), (0, .ref h_t)]) hx hb dX4_readSplit_10 hl (by decide) rfl (fun ls hl => ?_)
  have hL12 : ∀ (n12 : Nat) (vL12_0 : Int32) (vL12_1 : Int32) (vL12_2 : Int32) (vL12_3 : Int32) (H : Heap) (locs : List Loc) (ls : Array Slot), va_P G vwCl [(h_t, .inr (4, [.ref h_t_tape, .ref h_t_told, .ref h_t_causes, .int t_refused, .int vL12_0, .int t_cannotBe])), (h_t_tape, .inr (6, [.ref h_t_tape_bytes, .int t_tape_size])), (h_t_tape_bytes, .inl (cI, 60, .inl a_t_tape_bytes)), (h_t_told, .inr (1, [.int t_told_genus, .int t_told_size, .ref h_t_told_powers, .int t_told_limit, .long t_told_tree]))] H → va_D A [(h_t, .inr (4, [.ref h_t_tape, .ref h_t_told, .ref h_t_causes, .int t_refused, .int vL12_0, .int t_cannotBe])), (h_t_tape, .inr (6, [.ref h_t_tape_bytes, .int t_tape_size])), (h_t_tape_bytes, .inl (cI, 60, .inl a_t_tape_bytes)), (h_t_told, .inr (1, [.int t_told_genus, .int t_told_size, .ref h_t_told_powers, .int t_told_limit, .long t_told_tree]))] → va_S A s.heap H locs → lv_has ls 5 [(0, .ref h_t), (1, .int t_place), (2, .int vL12_1), (3, .int vL12_2), (4, .int vL12_3)] → wq4 (B_X4_readSplit_12 t_tape_size a_t_tape_bytes (K_X4_readSplit_12_84 t_place t_cannotBe t_told_limit t_told_tree)) n12 vL12_0 vL12_1 vL12_2 vL12_3 = some (r0, w0, w1, w2) → W p l e (headSpec wsX4_readSplit ({ frames := 3, cells := 0, slots := 0, locals := 71 })).room s m ([.ref h_t] : List Value).toArray below meth c H locs 0 0 (MQ below (va_Qi (fun r (_ : Unit) => r = r0 ∧ narrow .boolean (.int r0) = .int r0) (fun _ t => va_P G vwCl [(h_t, .inr (4, [.ref h_t_tape, .ref h_t_told, .ref h_t_causes, .int t_refused, .int w0, .int w1])), (h_t_tape, .inr (6, [.ref h_t_tape_bytes, .int t_tape_size])), (h_t_tape_bytes, .inl (cI, 60, .inl a_t_tape_bytes)), (h_t_told, .inr (1, [.int t_told_genus, .int t_told_size, .ref h_t_told_powers, .int t_told_limit, .long w2]))] t.heap) A) ([.ref h_t] : List Value).toArray s 0 0 A) (F0 m 12 ls []) := by
    intro n12
    induction n12 with
    | zero => intro vL12_0 vL12_1 vL12_2 vL12_3 H locs ls hP hD hS hl h; exact wq4_0 h
    | succ n12 ih12 =>
      intro vL12_0 vL12_1 vL12_2 vL12_3 H locs ls hP hD hS hl h
      have h := wq4_s h
      unfold B_X4_readSplit_12 at h
      refine lv_iload hx hb dX4_readSplit_12 (lv_at hl 4 rfl) ?_
      refine lv_iconst (v := (4 : Int32)) hx hb dX4_readSplit_14 (by decide) ?_
      refine lv_icmp_ge (tgt := 84) hx hb dX4_readSplit_15 (by decide) (fun c8 => ?_) (fun c8 => ?_)
      · have h := it_p h c8
        exact tK_X4_readSplit_12_84 hx hb hr hml hts hown hlocks hK hA vL12_0 vL12_2 _ _ _ hP hD hS (lv_sub hl [0, 1, 3] rfl) h
      have h := it_n h c8
      refine lv_aload_n hx hb dX4_readSplit_18 rfl (lv_at hl 0 rfl) ?_
      refine va_get (D := G) (ci := 4) (v := .ref h_t_tape) (C := RX4) (T := TX4) (N := 6) hx hb hts hinX4 hown hK hP 0 rfl rfl 0 (by decide) (hta _ mw_177) (fun _ h9 => h9) rfl dX4_readSplit_19 ?_
      refine lv_aload_n hx hb dX4_readSplit_22 rfl (lv_at hl 0 rfl) ?_
      refine va_get (D := G) (ci := 4) (v := .int vL12_0) (C := RX4) (T := TX4) (N := 6) hx hb hts hinX4 hown hK hP 0 rfl rfl 4 (by decide) (hta _ mw_189) (fun _ h9 => h9) rfl dX4_readSplit_23 ?_
      obtain ⟨x9, hx9, h⟩ := bd_e h
      try dsimp only at h
      refine k_ViU (n := 1) (As := [.int vL12_0]) (rest := []) hx hb hml hown hts (c_X7_isFigure l G cI cJ cD cH H.size h_t_tape h_t_tape_bytes t_tape_size a_t_tape_bytes vL12_0 x9 hx9) gX4_readSplit_X7_isFigure rfl rfl rfl (by decide +kernel) ⟨by first | exact Nat.le_of_ble_eq_true rfl | (simp only [headSpec]; omega), by first | exact Nat.le_of_ble_eq_true rfl | (simp only [headSpec]; omega)⟩ hK hP hD hS hA [1, 2] (by decide) rfl (ci := 6) rfl rfl rfl rfl rfl hl.1 (Nat.le_of_ble_eq_true rfl) dX4_readSplit_26 ⟨Nat.zero_le _, Nat.zero_le _⟩ (fun hp9 H locs hP hS => ?_)
      refine lv_if_eq (tgt := 84) hx hb dX4_readSplit_29 (by decide) (fun c10 => ?_) (fun c10 => ?_)
      · have h := it_p h c10
        exact tK_X4_readSplit_12_84 hx hb hr hml hts hown hlocks hK hA vL12_0 vL12_2 _ _ _ hP hD hS (lv_sub hl [0, 1, 3] rfl) h
      have h := it_n h c10
      refine lv_aload_n hx hb dX4_readSplit_32 rfl (lv_at hl 0 rfl) ?_
      refine va_get (D := G) (ci := 4) (v := .ref h_t_tape) (C := RX4) (T := TX4) (N := 6) hx hb hts hinX4 hown hK hP 0 rfl rfl 0 (by decide) (hta _ mw_177) (fun _ h9 => h9) rfl dX4_readSplit_33 ?_
      refine lv_aload_n hx hb dX4_readSplit_36 rfl (lv_at hl 0 rfl) ?_
      refine va_get (D := G) (ci := 4) (v := .int vL12_0) (C := RX4) (T := TX4) (N := 6) hx hb hts hinX4 hown hK hP 0 rfl rfl 4 (by decide) (hta _ mw_189) (fun _ h9 => h9) rfl dX4_readSplit_37 ?_
      obtain ⟨x11, hx11, h⟩ := bd_e h
      try dsimp only at h
      refine k_ViU (n := 1) (As := [.int vL12_0]) (rest := []) hx hb hml hown hts (c_X7_figureAt l G cI cJ cD cH H.size h_t_tape h_t_tape_bytes t_tape_size a_t_tape_bytes vL12_0 x11 hx11) gX4_readSplit_X7_figureAt rfl rfl rfl (by decide +kernel) ⟨by first | exact Nat.le_of_ble_eq_true rfl | (simp only [headSpec]; omega), by first | exact Nat.le_of_ble_eq_true rfl | (simp only [headSpec]; omega)⟩ hK hP hD hS hA [1, 2] (by decide) rfl (ci := 6) rfl rfl rfl rfl rfl hl.1 (Nat.le_of_ble_eq_true rfl) dX4_readSplit_40 ⟨Nat.zero_le _, Nat.zero_le _⟩ (fun hp11 H locs hP hS => ?_)
      refine lv_iload_n hx hb dX4_readSplit_43 rfl (lv_at hl 2 rfl) ?_
      refine lv_icmp_gt (tgt := 50) hx hb dX4_readSplit_44 (by decide) (fun c12 => ?_) (fun c12 => ?_)
      rotate_left
      · have h := it_n h c12
        refine lv_goto (tgt := 84) hx hb dX4_readSplit_47 (by decide) ?_
        exact tK_X4_readSplit_12_84 hx hb hr hml hts hown hlocks hK hA vL12_0 vL12_2 _ _ _ hP hD hS (lv_sub hl [0, 1, 3] rfl) h
      have h := it_p h c12
      refine lv_aload_n hx hb dX4_readSplit_50 rfl (lv_at hl 0 rfl) ?_
      refine va_get (D := G) (ci := 4) (v := .ref h_t_tape) (C := RX4) (T := TX4) (N := 6) hx hb hts hinX4 hown hK hP 0 rfl rfl 0 (by decide) (hta _ mw_177) (fun _ h9 => h9) rfl dX4_readSplit_51 ?_
      refine lv_aload_n hx hb dX4_readSplit_54 rfl (lv_at hl 0 rfl) ?_
      refine va_get (D := G) (ci := 4) (v := .int vL12_0) (C := RX4) (T := TX4) (N := 6) hx hb hts hinX4 hown hK hP 0 rfl rfl 4 (by decide) (hta _ mw_189) (fun _ h9 => h9) rfl dX4_readSplit_55 ?_
      obtain ⟨x13, hx13, h⟩ := bd_e h
      try dsimp only at h
      refine k_ViU (n := 1) (As := [.int vL12_0]) (rest := []) hx hb hml hown hts (c_X7_figureAt l G cI cJ cD cH H.size h_t_tape h_t_tape_bytes t_tape_size a_t_tape_bytes vL12_0 x13 hx13) gX4_readSplit_X7_figureAt rfl rfl rfl (by decide +kernel) ⟨by first | exact Nat.le_of_ble_eq_true rfl | (simp only [headSpec]; omega), by first | exact Nat.le_of_ble_eq_true rfl | (simp only [headSpec]; omega)⟩ hK hP hD hS hA [1, 2] (by decide) rfl (ci := 6) rfl rfl rfl rfl rfl hl.1 (Nat.le_of_ble_eq_true rfl) dX4_readSplit_58 ⟨Nat.zero_le _, Nat.zero_le _⟩ (fun hp13 H locs hP hS => ?_)
      refine lv_istore_n (lv' := [(2, .int x13), (0, .ref h_t), (1, .int t_place), (3, .int vL12_2), (4, .int vL12_3)]) hx hb dX4_readSplit_61 rfl hl (by decide) rfl (fun ls hl => ?_)
      refine lv_iload_n hx hb dX4_readSplit_62 rfl (lv_at hl 3 rfl) ?_
      refine lv_iconst (v := (1 : Int32)) hx hb dX4_readSplit_63 (by decide) ?_
      refine lv_iload_n hx hb dX4_readSplit_64 rfl (lv_at hl 0 rfl) ?_
      refine lv_ishl hx hb dX4_readSplit_65 ?_
      refine lv_ior hx hb dX4_readSplit_66 ?_
      refine lv_istore_n (lv' := [(3, .int (vL12_2 ||| ((1 : Int32) <<< (x13 &&& 31)))), (2, .int x13), (0, .ref h_t), (1, .int t_place), (4, .int vL12_3)]) hx hb dX4_readSplit_67 rfl hl (by decide) rfl (fun ls hl => ?_)
      refine lv_aload_n hx hb dX4_readSplit_68 rfl (lv_at hl 2 rfl) ?_
      refine lv_dup hx hb dX4_readSplit_69 rfl ?_
      refine va_get (D := G) (ci := 4) (v := .int vL12_0) (C := RX4) (T := TX4) (N := 6) hx hb hts hinX4 hown hK hP 0 rfl rfl 4 (by decide) (hta _ mw_189) (fun _ h9 => h9) rfl dX4_readSplit_70 ?_
      refine lv_iconst (v := (1 : Int32)) hx hb dX4_readSplit_73 (by decide) ?_
      refine lv_iadd hx hb dX4_readSplit_74 ?_
      refine va_put (D := G) (ci := 4) (v := .int (vL12_0 + (1 : Int32))) (ty := .int) (C := RX4) (T := TX4) (N := 6) hx hb hts hinX4 tyX4 tyX4_ok nmX4 hown hK hP hD hS 0 rfl rfl 4 (by decide) (hta _ mw_189) (fun _ h9 => h9) rfl (by decide +kernel) rfl rfl (Nat.le_of_ble_eq_true rfl) dX4_readSplit_75 (fun H locs hP hD hS => ?_)
      have hP : va_P G vwCl [(h_t, .inr (4, [.ref h_t_tape, .ref h_t_told, .ref h_t_causes, .int t_refused, .int (vL12_0 + (1 : Int32)), .int t_cannotBe])), (h_t_tape, .inr (6, [.ref h_t_tape_bytes, .int t_tape_size])), (h_t_tape_bytes, .inl (cI, 60, .inl a_t_tape_bytes)), (h_t_told, .inr (1, [.int t_told_genus, .int t_told_size, .ref h_t_told_powers, .int t_told_limit, .long t_told_tree]))] H := hP
      have hD : va_D A [(h_t, .inr (4, [.ref h_t_tape, .ref h_t_told, .ref h_t_causes, .int t_refused, .int (vL12_0 + (1 : Int32)), .int t_cannotBe])), (h_t_tape, .inr (6, [.ref h_t_tape_bytes, .int t_tape_size])), (h_t_tape_bytes, .inl (cI, 60, .inl a_t_tape_bytes)), (h_t_told, .inr (1, [.int t_told_genus, .int t_told_size, .ref h_t_told_powers, .int t_told_limit, .long t_told_tree]))] := hD
      refine lv_iinc (v := (vL12_3 + (1 : Int32))) (lv' := [(4, .int (vL12_3 + (1 : Int32))), (3, .int (vL12_2 ||| ((1 : Int32) <<< (x13 &&& 31)))), (2, .int x13), (0, .ref h_t), (1, .int t_place)]) hx hb dX4_readSplit_78 hl (k := 4) rfl (by first | rfl | decide) (by decide) rfl (fun ls hl => ?_)
      refine lv_goto (tgt := 12) hx hb dX4_readSplit_81 (by decide) ?_
      exact ih12 (vL12_0 + (1 : Int32)) x13 (vL12_2 ||| ((1 : Int32) <<< (x13 &&& 31))) (vL12_3 + (1 : Int32)) _ _ _ hP hD hS (lv_sub hl [3, 4, 2, 1, 0] rfl) h
  exact hL12 FU t_place (-1 : Int32) (0 : Int32) (0 : Int32) _ _ _ hP hD hS (lv_sub hl [4, 3, 2, 1, 0] rfl) h

/-! X4_readSplits -/
set_option maxHeartbeats 4000000 in
set_option maxRecDepth 100000 in
theorem tK_X4_readSplits_2_31 {l : Launch} {G : va_G} {cI cJ cD cH : ClassId} {h_t : Nat} {h_t_tape : Nat} {h_t_tape_bytes : Nat} {h_t_told : Nat} {h_t_causes : Nat} {h_t_told_powers : Nat} {t_refused : Int32} {t_tape_size : Int32} {a_t_tape_bytes : Nat → Int32} {t_told_genus : Int32} {t_told_size : Int32} {t_told_limit : Int32} {r0 : Int32} {w0 : Int32} {w1 : Int32} {w2 : Int64} {p : Program} {e : Env} {s : State} {m : MethodId} {below : List Frame} {meth : Method} {c : Code} {A : Nat → Prop} (hx : p.tables.exec = Jvm.exec) (hb : c.code = cX4_readSplits) (hr : meth.sig.returnType = (some .boolean)) (hml : c.maxLocals = 2) (hts : ∀ w ∈ wsX4_readSplits, w.before ([.ref h_t] : List Value).toArray s = true) (hown : s.vm.findClass RX4 = some m.cls) (hlocks : meth.locks = false) (hK : va_K G vwCl (k_T cI cJ cD cH) s) (hA : ∀ q : Nat, s.heap.size ≤ q → A q) : ∀  (vK2_31_0 : Int32) (vK2_31_1 : Int32) (vK2_31_2 : Int64) (H : Heap) (locs : List Loc) (ls : Array Slot), va_P G vwCl [(h_t, .inr (4, [.ref h_t_tape, .ref h_t_told, .ref h_t_causes, .int t_refused, .int vK2_31_0, .int vK2_31_1])), (h_t_tape, .inr (6, [.ref h_t_tape_bytes, .int t_tape_size])), (h_t_tape_bytes, .inl (cI, 60, .inl a_t_tape_bytes)), (h_t_told, .inr (1, [.int t_told_genus, .int t_told_size, .ref h_t_told_powers, .int t_told_limit, .long vK2_31_2]))] H → va_D A [(h_t, .inr (4, [.ref h_t_tape, .ref h_t_told, .ref h_t_causes, .int t_refused, .int vK2_31_0, .int vK2_31_1])), (h_t_tape, .inr (6, [.ref h_t_tape_bytes, .int t_tape_size])), (h_t_tape_bytes, .inl (cI, 60, .inl a_t_tape_bytes)), (h_t_told, .inr (1, [.int t_told_genus, .int t_told_size, .ref h_t_told_powers, .int t_told_limit, .long vK2_31_2]))] → va_S A s.heap H locs → lv_has ls 2 [] → K_X4_readSplits_2_31 vK2_31_0 vK2_31_1 vK2_31_2 = some (r0, w0, w1, w2) → W p l e (headSpec wsX4_readSplits ({ frames := 4, cells := 0, slots := 0, locals := 95 })).room s m ([.ref h_t] : List Value).toArray below meth c H locs 0 0 (MQ below (va_Qi (fun r (_ : Unit) => r = r0 ∧ narrow .boolean (.int r0) = .int r0) (fun _ t => va_P G vwCl [(h_t, .inr (4, [.ref h_t_tape, .ref h_t_told, .ref h_t_causes, .int t_refused, .int w0, .int w1])), (h_t_tape, .inr (6, [.ref h_t_tape_bytes, .int t_tape_size])), (h_t_tape_bytes, .inl (cI, 60, .inl a_t_tape_bytes)), (h_t_told, .inr (1, [.int t_told_genus, .int t_told_size, .ref h_t_told_powers, .int t_told_limit, .long w2]))] t.heap) A) ([.ref h_t] : List Value).toArray s 0 0 A) (F0 m 31 ls []) := by
  have hta : ∀ w ∈ wA, w.before ([.ref h_t] : List Value).toArray s = true := hta_of hts
  intro vK2_31_0 vK2_31_1 vK2_31_2 H locs ls hP hD hS hl h
  unfold K_X4_readSplits_2_31 at h
  refine lv_iconst (v := (1 : Int32)) hx hb dX4_readSplits_31 (by decide) ?_
  have h9 := Option.some.inj h
  have e9 : (1 : Int32) = r0 := congrArg (fun z9 => z9.1) h9
  rw [← e9]
  have e9 : vK2_31_0 = w0 := congrArg (fun z9 => z9.2.1) h9
  rw [← e9]
  have e9 : vK2_31_1 = w1 := congrArg (fun z9 => z9.2.2.1) h9
  rw [← e9]
  have e9 : vK2_31_2 = w2 := congrArg (fun z9 => z9.2.2.2) h9
  rw [← e9]
  exact k_zret hx hb hr hlocks hP hS rfl rfl dX4_readSplits_32
set_option maxHeartbeats 4000000 in
set_option maxRecDepth 100000 in
theorem c_X4_readSplits (l : Launch) (G : va_G) (cI cJ cD cH : ClassId) (sz : Nat) (h_t : Nat) (h_t_tape : Nat) (h_t_tape_bytes : Nat) (h_t_told : Nat) (h_t_causes : Nat) (h_t_told_powers : Nat) (t_refused : Int32) (t_place : Int32) (t_cannotBe : Int32) (t_tape_size : Int32) (a_t_tape_bytes : Nat → Int32) (t_told_genus : Int32) (t_told_size : Int32) (t_told_limit : Int32) (t_told_tree : Int64) (r0 : Int32) (w0 : Int32) (w1 : Int32) (w2 : Int64) (hF : F_X4_readSplits t_place t_cannotBe t_tape_size a_t_tape_bytes t_told_limit t_told_tree = some (r0, w0, w1, w2)) : Met l yX4_readSplits wsX4_readSplits ({ frames := 4, cells := 0, slots := 0, locals := 95 }) (k_pre G (k_T cI cJ cD cH) [(h_t, .inr (4, [.ref h_t_tape, .ref h_t_told, .ref h_t_causes, .int t_refused, .int t_place, .int t_cannotBe])), (h_t_tape, .inr (6, [.ref h_t_tape_bytes, .int t_tape_size])), (h_t_tape_bytes, .inl (cI, 60, .inl a_t_tape_bytes)), (h_t_told, .inr (1, [.int t_told_genus, .int t_told_size, .ref h_t_told_powers, .int t_told_limit, .long t_told_tree]))] sz [.ref h_t]) (va_Qi (fun r (_ : Unit) => r = r0 ∧ narrow .boolean (.int r0) = .int r0) (fun _ t => va_P G vwCl [(h_t, .inr (4, [.ref h_t_tape, .ref h_t_told, .ref h_t_causes, .int t_refused, .int w0, .int w1])), (h_t_tape, .inr (6, [.ref h_t_tape_bytes, .int t_tape_size])), (h_t_tape_bytes, .inl (cI, 60, .inl a_t_tape_bytes)), (h_t_told, .inr (1, [.int t_told_genus, .int t_told_size, .ref h_t_told_powers, .int t_told_limit, .long w2]))] t.heap) (va_A [(h_t, .inr (4, [.ref h_t_tape, .ref h_t_told, .ref h_t_causes, .int t_refused, .int t_place, .int t_cannotBe])), (h_t_tape, .inr (6, [.ref h_t_tape_bytes, .int t_tape_size])), (h_t_tape_bytes, .inl (cI, 60, .inl a_t_tape_bytes)), (h_t_told, .inr (1, [.int t_told_genus, .int t_told_size, .ref h_t_told_powers, .int t_told_limit, .long t_told_tree]))] sz)) 0 0 (va_A [(h_t, .inr (4, [.ref h_t_tape, .ref h_t_told, .ref h_t_causes, .int t_refused, .int t_place, .int t_cannotBe])), (h_t_tape, .inr (6, [.ref h_t_tape_bytes, .int t_tape_size])), (h_t_tape_bytes, .inl (cI, 60, .inl a_t_tape_bytes)), (h_t_told, .inr (1, [.int t_told_genus, .int t_told_size, .ref h_t_told_powers, .int t_told_limit, .long t_told_tree]))] sz) := by
  refine Met.ofW (cc := cX4_readSplits) (maxL := 2) (ret := (some .boolean)) (by decide) rfl ?_
  intro p e s m args below meth c s₁ B hml hv
  obtain ⟨rfl, hsz, hP, hK, hD0⟩ := hv
  have hx := B.exec
  have hb := B.bytes
  have hr := B.returns
  have hts := atoms_spec (ws := wsX4_readSplits) B.pre
  have hta : ∀ w ∈ wA, w.before ([.ref h_t] : List Value).toArray s = true := hta_of hts
  have hown : s.vm.findClass RX4 = some m.cls := findClass_of_methodNamed B.named
  have hlocks := B.notSynchronized
  subst hsz
  have hD := hD0.self (sz := s.heap.size)
  generalize hAe : va_A [(h_t, .inr (4, [.ref h_t_tape, .ref h_t_told, .ref h_t_causes, .int t_refused, .int t_place, .int t_cannotBe])), (h_t_tape, .inr (6, [.ref h_t_tape_bytes, .int t_tape_size])), (h_t_tape_bytes, .inl (cI, 60, .inl a_t_tape_bytes)), (h_t_told, .inr (1, [.int t_told_genus, .int t_told_size, .ref h_t_told_powers, .int t_told_limit, .long t_told_tree]))] s.heap.size = A at hD ⊢
  have hA : ∀ q : Nat, s.heap.size ≤ q → A q := fun q h => by rw [← hAe]; exact Or.inr h
  have hS : va_S A s.heap s.heap [] := va_S.rf
  have hl := lv_entry ([.ref h_t]) (n := 2) (Nat.le_of_ble_eq_true rfl)
  rw [lg_entry_eq]
  generalize (lg_sl ([.ref h_t]) ++ List.replicate (2 - (lg_sl ([.ref h_t])).length) Slot.unset).toArray = ls at hl ⊢
  have hl : lv_has ls 2 [(0, .ref h_t)] := hl
  have h := hF
  unfold F_X4_readSplits at h
  refine lv_iconst (v := (0 : Int32)) hx hb dX4_readSplits_0 (by decide) ?_
  refine lv_istore_n (lv' := [(1, .int (0 : Int32)), (0, .ref h_t)]) hx hb dX4_readSplits_1 rfl hl (by decide) rfl (fun ls hl => ?_)
  have hL2 : ∀ (n2 : Nat) (vL2_0 : Int32) (vL2_1 : Int32) (vL2_2 : Int64) (vL2_3 : Int32) (H : Heap) (locs : List Loc) (ls : Array Slot), va_P G vwCl [(h_t, .inr (4, [.ref h_t_tape, .ref h_t_told, .ref h_t_causes, .int t_refused, .int vL2_0, .int vL2_1])), (h_t_tape, .inr (6, [.ref h_t_tape_bytes, .int t_tape_size])), (h_t_tape_bytes, .inl (cI, 60, .inl a_t_tape_bytes)), (h_t_told, .inr (1, [.int t_told_genus, .int t_told_size, .ref h_t_told_powers, .int t_told_limit, .long vL2_2]))] H → va_D A [(h_t, .inr (4, [.ref h_t_tape, .ref h_t_told, .ref h_t_causes, .int t_refused, .int vL2_0, .int vL2_1])), (h_t_tape, .inr (6, [.ref h_t_tape_bytes, .int t_tape_size])), (h_t_tape_bytes, .inl (cI, 60, .inl a_t_tape_bytes)), (h_t_told, .inr (1, [.int t_told_genus, .int t_told_size, .ref h_t_told_powers, .int t_told_limit, .long vL2_2]))] → va_S A s.heap H locs → lv_has ls 2 [(0, .ref h_t), (1, .int vL2_3)] → wq4 (B_X4_readSplits_2 t_tape_size a_t_tape_bytes t_told_limit K_X4_readSplits_2_31) n2 vL2_0 vL2_1 vL2_2 vL2_3 = some (r0, w0, w1, w2) → W p l e (headSpec wsX4_readSplits ({ frames := 4, cells := 0, slots := 0, locals := 95 })).room s m ([.ref h_t] : List Value).toArray below meth c H locs 0 0 (MQ below (va_Qi (fun r (_ : Unit) => r = r0 ∧ narrow .boolean (.int r0) = .int r0) (fun _ t => va_P G vwCl [(h_t, .inr (4, [.ref h_t_tape, .ref h_t_told, .ref h_t_causes, .int t_refused, .int w0, .int w1])), (h_t_tape, .inr (6, [.ref h_t_tape_bytes, .int t_tape_size])), (h_t_tape_bytes, .inl (cI, 60, .inl a_t_tape_bytes)), (h_t_told, .inr (1, [.int t_told_genus, .int t_told_size, .ref h_t_told_powers, .int t_told_limit, .long w2]))] t.heap) A) ([.ref h_t] : List Value).toArray s 0 0 A) (F0 m 2 ls []) := by
    intro n2
    induction n2 with
    | zero => intro vL2_0 vL2_1 vL2_2 vL2_3 H locs ls hP hD hS hl h; exact wq4_0 h
    | succ n2 ih2 =>
      intro vL2_0 vL2_1 vL2_2 vL2_3 H locs ls hP hD hS hl h
      have h := wq4_s h
      unfold B_X4_readSplits_2 at h
      refine lv_iload_n hx hb dX4_readSplits_2 rfl (lv_at hl 1 rfl) ?_
      refine lv_iconst (v := (3 : Int32)) hx hb dX4_readSplits_3 (by decide) ?_
      refine lv_icmp_ge (tgt := 31) hx hb dX4_readSplits_4 (by decide) (fun c1 => ?_) (fun c1 => ?_)
      · have h := it_p h c1
        exact tK_X4_readSplits_2_31 hx hb hr hml hts hown hlocks hK hA vL2_0 vL2_1 vL2_2 _ _ _ hP hD hS (lv_sub hl [] rfl) h
      have h := it_n h c1
      refine lv_aload_n hx hb dX4_readSplits_7 rfl (lv_at hl 0 rfl) ?_
      refine lv_bipush (v := (59 : Int32)) hx hb dX4_readSplits_8 (by decide) ?_
      obtain ⟨x2, hx2, h⟩ := bd_e h
      try dsimp only at h
      refine k_ViM (n := 1) (As := [.int (59 : Int32)]) (rest := []) hx hb hml hown hts (c_X4_readSign l G cI cJ cD cH H.size h_t h_t_tape h_t_tape_bytes h_t_told h_t_causes t_refused vL2_0 vL2_1 t_tape_size a_t_tape_bytes (59 : Int32) (x2.1) (x2.2) hx2) gX4_readSplits_X4_readSign rfl rfl rfl (by decide +kernel) ⟨by first | exact Nat.le_of_ble_eq_true rfl | (simp only [headSpec]; omega), by first | exact Nat.le_of_ble_eq_true rfl | (simp only [headSpec]; omega)⟩ hK hP hD hS hA [0, 1, 2] (by decide) rfl rfl (ci := 4) rfl rfl rfl rfl rfl hl.1 (Nat.le_of_ble_eq_true rfl) dX4_readSplits_10 ⟨Nat.zero_le _, Nat.zero_le _⟩ [(h_t, .inr (4, [.ref h_t_tape, .ref h_t_told, .ref h_t_causes, .int t_refused, .int (x2.2), .int vL2_1])), (h_t_tape, .inr (6, [.ref h_t_tape_bytes, .int t_tape_size])), (h_t_tape_bytes, .inl (cI, 60, .inl a_t_tape_bytes)), (h_t_told, .inr (1, [.int t_told_genus, .int t_told_size, .ref h_t_told_powers, .int t_told_limit, .long vL2_2]))] [1, 2, 3, 0] 3 (by decide +kernel) rfl rfl rfl (fun hp2 H locs hP hD hS => ?_)
      refine lv_if_eq (tgt := 31) hx hb dX4_readSplits_13 (by decide) (fun c3 => ?_) (fun c3 => ?_)
      · have h := it_p h c3
        exact tK_X4_readSplits_2_31 hx hb hr hml hts hown hlocks hK hA (x2.2) vL2_1 vL2_2 _ _ _ hP hD hS (lv_sub hl [] rfl) h
      have h := it_n h c3
      refine lv_aload_n hx hb dX4_readSplits_16 rfl (lv_at hl 0 rfl) ?_
      obtain ⟨x4, hx4, h⟩ := bd_e h
      try dsimp only at h
      refine k_ViM (n := 0) (As := []) (rest := []) hx hb hml hown hts (c_X4_readSplit l G cI cJ cD cH H.size h_t h_t_tape h_t_tape_bytes h_t_told h_t_causes h_t_told_powers t_refused (x2.2) vL2_1 t_tape_size a_t_tape_bytes t_told_genus t_told_size t_told_limit vL2_2 (x4.1) (x4.2.1) (x4.2.2.1) (x4.2.2.2) hx4) gX4_readSplits_X4_readSplit rfl rfl rfl (by decide +kernel) ⟨by first | exact Nat.le_of_ble_eq_true rfl | (simp only [headSpec]; omega), by first | exact Nat.le_of_ble_eq_true rfl | (simp only [headSpec]; omega)⟩ hK hP hD hS hA [0, 1, 2, 3] (by decide) rfl rfl (ci := 4) rfl rfl rfl rfl rfl hl.1 (Nat.le_of_ble_eq_true rfl) dX4_readSplits_17 ⟨Nat.zero_le _, Nat.zero_le _⟩ [(h_t, .inr (4, [.ref h_t_tape, .ref h_t_told, .ref h_t_causes, .int t_refused, .int (x4.2.1), .int (x4.2.2.1)])), (h_t_tape, .inr (6, [.ref h_t_tape_bytes, .int t_tape_size])), (h_t_tape_bytes, .inl (cI, 60, .inl a_t_tape_bytes)), (h_t_told, .inr (1, [.int t_told_genus, .int t_told_size, .ref h_t_told_powers, .int t_told_limit, .long (x4.2.2.2)]))] [1, 2, 3, 4] 4 (by decide +kernel) rfl rfl rfl (fun hp4 H locs hP hD hS => ?_)
      refine lv_if_ne (tgt := 25) hx hb dX4_readSplits_20 (by decide) (fun c5 => ?_) (fun c5 => ?_)
      · have h := it_n h c5
        refine lv_iinc (v := (vL2_3 + (1 : Int32))) (lv' := [(1, .int (vL2_3 + (1 : Int32))), (0, .ref h_t)]) hx hb dX4_readSplits_25 hl (k := 1) rfl (by first | rfl | decide) (by decide) rfl (fun ls hl => ?_)
        refine lv_goto (tgt := 2) hx hb dX4_readSplits_28 (by decide) ?_
        exact ih2 (x4.2.1) (x4.2.2.1) (x4.2.2.2) (vL2_3 + (1 : Int32)) _ _ _ hP hD hS (lv_sub hl [1, 0] rfl) h
      have h := it_p h c5
      refine lv_iconst (v := (0 : Int32)) hx hb dX4_readSplits_23 (by decide) ?_
      have h9 := Option.some.inj h
      have e9 : (0 : Int32) = r0 := congrArg (fun z9 => z9.1) h9
      rw [← e9]
      have e9 : (x4.2.1) = w0 := congrArg (fun z9 => z9.2.1) h9
      rw [← e9]
      have e9 : (x4.2.2.1) = w1 := congrArg (fun z9 => z9.2.2.1) h9
      rw [← e9]
      have e9 : (x4.2.2.2) = w2 := congrArg (fun z9 => z9.2.2.2) h9
      rw [← e9]
      exact k_zret hx hb hr hlocks hP hS rfl rfl dX4_readSplits_24
  exact hL2 FU t_place t_cannotBe t_told_tree (0 : Int32) _ _ _ hP hD hS (lv_sub hl [1, 0] rfl) h

/-! X4_readText -/
set_option maxHeartbeats 4000000 in
set_option maxRecDepth 100000 in
theorem tJ_X4_readText_50 {l : Launch} {G : va_G} {cI cJ cD cH : ClassId} {h_t : Nat} {h_t_tape : Nat} {h_t_tape_bytes : Nat} {h_t_told : Nat} {h_t_told_powers : Nat} {h_t_causes : Nat} {t_refused : Int32} {t_tape_size : Int32} {a_t_tape_bytes : Nat → Int32} {r0 : Int32} {w0 : Nat → Int32} {w1 : Int32} {w2 : Int32} {w3 : Int32} {w4 : Int32} {w5 : Int32} {w6 : Int64} {x1 : Int32 × Int32 × Int32 × Int32} {x5 : Int32 × (Nat → Int32) × Int32 × Int32 × Int32} {p : Program} {e : Env} {s : State} {m : MethodId} {below : List Frame} {meth : Method} {c : Code} {A : Nat → Prop} (hx : p.tables.exec = Jvm.exec) (hb : c.code = cX4_readText) (hr : meth.sig.returnType = (some .boolean)) (hml : c.maxLocals = 1) (hts : ∀ w ∈ wsX4_readText, w.before ([.ref h_t] : List Value).toArray s = true) (hown : s.vm.findClass RX4 = some m.cls) (hlocks : meth.locks = false) (hK : va_K G vwCl (k_T cI cJ cD cH) s) (hA : ∀ q : Nat, s.heap.size ≤ q → A q) : ∀  (vJ50_0 : Int32) (vJ50_1 : Int32) (vJ50_2 : Int32) (vJ50_3 : Int64) (H : Heap) (locs : List Loc) (ls : Array Slot), va_P G vwCl [(h_t, .inr (4, [.ref h_t_tape, .ref h_t_told, .ref h_t_causes, .int t_refused, .int vJ50_0, .int vJ50_1])), (h_t_tape, .inr (6, [.ref h_t_tape_bytes, .int t_tape_size])), (h_t_tape_bytes, .inl (cI, 60, .inl a_t_tape_bytes)), (h_t_told, .inr (1, [.int (x1.2.2.2), .int (x5.2.2.2.2), .ref h_t_told_powers, .int vJ50_2, .long vJ50_3])), (h_t_told_powers, .inl (cI, 8, .inl (x5.2.1)))] H → va_D A [(h_t, .inr (4, [.ref h_t_tape, .ref h_t_told, .ref h_t_causes, .int t_refused, .int vJ50_0, .int vJ50_1])), (h_t_tape, .inr (6, [.ref h_t_tape_bytes, .int t_tape_size])), (h_t_tape_bytes, .inl (cI, 60, .inl a_t_tape_bytes)), (h_t_told, .inr (1, [.int (x1.2.2.2), .int (x5.2.2.2.2), .ref h_t_told_powers, .int vJ50_2, .long vJ50_3])), (h_t_told_powers, .inl (cI, 8, .inl (x5.2.1)))] → va_S A s.heap H locs → lv_has ls 1 [(0, .ref h_t)] → J_X4_readText_50 t_tape_size x1 x5 vJ50_0 vJ50_1 vJ50_2 vJ50_3 = some (r0, w0, w1, w2, w3, w4, w5, w6) → W p l e (headSpec wsX4_readText ({ frames := 5, cells := 0, slots := 0, locals := 116 })).room s m ([.ref h_t] : List Value).toArray below meth c H locs 0 0 (MQ below (va_Qi (fun r (_ : Unit) => r = r0 ∧ narrow .boolean (.int r0) = .int r0) (fun _ t => va_P G vwCl [(h_t, .inr (4, [.ref h_t_tape, .ref h_t_told, .ref h_t_causes, .int t_refused, .int w1, .int w2])), (h_t_tape, .inr (6, [.ref h_t_tape_bytes, .int t_tape_size])), (h_t_tape_bytes, .inl (cI, 60, .inl a_t_tape_bytes)), (h_t_told, .inr (1, [.int w3, .int w4, .ref h_t_told_powers, .int w5, .long w6])), (h_t_told_powers, .inl (cI, 8, .inl w0))] t.heap) A) ([.ref h_t] : List Value).toArray s 0 0 A) (F0 m 50 ls []) := by
  have hta : ∀ w ∈ wA, w.before ([.ref h_t] : List Value).toArray s = true := hta_of hts
  have hinX4 : ∀ w ∈ wsX40, w ∈ wsX4_readText := hin_of in_X4
  have hinX7 : ∀ w ∈ wsX70, w ∈ wsX4_readText := hin_of in_X7
  intro vJ50_0 vJ50_1 vJ50_2 vJ50_3 H locs ls hP hD hS hl h
  unfold J_X4_readText_50 at h
  refine lv_aload_n hx hb dX4_readText_50 rfl (lv_at hl 0 rfl) ?_
  refine va_get (D := G) (ci := 4) (v := .int vJ50_0) (C := RX4) (T := TX4) (N := 6) hx hb hts hinX4 hown hK hP 0 rfl rfl 4 (by decide) (hta _ mw_189) (fun _ h9 => h9) rfl dX4_readText_51 ?_
  refine lv_aload_n hx hb dX4_readText_54 rfl (lv_at hl 0 rfl) ?_
  refine va_get (D := G) (ci := 4) (v := .ref h_t_tape) (C := RX4) (T := TX4) (N := 6) hx hb hts hinX4 hown hK hP 0 rfl rfl 0 (by decide) (hta _ mw_177) (fun _ h9 => h9) rfl dX4_readText_55 ?_
  refine va_get (D := G) (ci := 6) (v := .int t_tape_size) (C := RX7) (T := TX7) (N := 2) hx hb hts hinX7 hown hK hP 1 rfl rfl 1 (by decide) (hta _ mw_198) (fun _ h9 => h9) rfl dX4_readText_58 ?_
  refine lv_icmp_ne (tgt := 68) hx hb dX4_readText_61 (by decide) (fun c8 => ?_) (fun c8 => ?_)
  · have h := it_n h c8
    refine lv_iconst (v := (0 : Int32)) hx hb dX4_readText_68 (by decide) ?_
    have h9 := Option.some.inj h
    have e9 : (0 : Int32) = r0 := congrArg (fun z9 => z9.1) h9
    rw [← e9]
    have e9 : (x5.2.1) = w0 := congrArg (fun z9 => z9.2.1) h9
    rw [← e9]
    have e9 : vJ50_0 = w1 := congrArg (fun z9 => z9.2.2.1) h9
    rw [← e9]
    have e9 : vJ50_1 = w2 := congrArg (fun z9 => z9.2.2.2.1) h9
    rw [← e9]
    have e9 : (x1.2.2.2) = w3 := congrArg (fun z9 => z9.2.2.2.2.1) h9
    rw [← e9]
    have e9 : (x5.2.2.2.2) = w4 := congrArg (fun z9 => z9.2.2.2.2.2.1) h9
    rw [← e9]
    have e9 : vJ50_2 = w5 := congrArg (fun z9 => z9.2.2.2.2.2.2.1) h9
    rw [← e9]
    have e9 : vJ50_3 = w6 := congrArg (fun z9 => z9.2.2.2.2.2.2.2) h9
    rw [← e9]
    exact k_zret hx hb hr hlocks hP hS rfl rfl dX4_readText_69
  have h := it_p h c8
  refine lv_iconst (v := (1 : Int32)) hx hb dX4_readText_64 (by decide) ?_
  refine lv_goto (tgt := 69) hx hb dX4_readText_65 (by decide) ?_
  have h9 := Option.some.inj h
  have e9 : (1 : Int32) = r0 := congrArg (fun z9 => z9.1) h9
  rw [← e9]
  have e9 : (x5.2.1) = w0 := congrArg (fun z9 => z9.2.1) h9
  rw [← e9]
  have e9 : vJ50_0 = w1 := congrArg (fun z9 => z9.2.2.1) h9
  rw [← e9]
  have e9 : vJ50_1 = w2 := congrArg (fun z9 => z9.2.2.2.1) h9
  rw [← e9]
  have e9 : (x1.2.2.2) = w3 := congrArg (fun z9 => z9.2.2.2.2.1) h9
  rw [← e9]
  have e9 : (x5.2.2.2.2) = w4 := congrArg (fun z9 => z9.2.2.2.2.2.1) h9
  rw [← e9]
  have e9 : vJ50_2 = w5 := congrArg (fun z9 => z9.2.2.2.2.2.2.1) h9
  rw [← e9]
  have e9 : vJ50_3 = w6 := congrArg (fun z9 => z9.2.2.2.2.2.2.2) h9
  rw [← e9]
  exact k_zret hx hb hr hlocks hP hS rfl rfl dX4_readText_69
set_option maxHeartbeats 4000000 in
set_option maxRecDepth 100000 in
theorem c_X4_readText (l : Launch) (G : va_G) (cI cJ cD cH : ClassId) (sz : Nat) (h_t : Nat) (h_t_tape : Nat) (h_t_tape_bytes : Nat) (h_t_told : Nat) (h_t_told_powers : Nat) (h_t_causes : Nat) (t_refused : Int32) (t_place : Int32) (t_cannotBe : Int32) (t_tape_size : Int32) (a_t_tape_bytes : Nat → Int32) (t_told_genus : Int32) (t_told_size : Int32) (t_told_limit : Int32) (t_told_tree : Int64) (a_t_told_powers : Nat → Int32) (r0 : Int32) (w0 : Nat → Int32) (w1 : Int32) (w2 : Int32) (w3 : Int32) (w4 : Int32) (w5 : Int32) (w6 : Int64) (hF : F_X4_readText t_place t_cannotBe t_tape_size a_t_tape_bytes t_told_genus t_told_size t_told_limit t_told_tree a_t_told_powers = some (r0, w0, w1, w2, w3, w4, w5, w6)) : Met l yX4_readText wsX4_readText ({ frames := 5, cells := 0, slots := 0, locals := 116 }) (k_pre G (k_T cI cJ cD cH) [(h_t, .inr (4, [.ref h_t_tape, .ref h_t_told, .ref h_t_causes, .int t_refused, .int t_place, .int t_cannotBe])), (h_t_tape, .inr (6, [.ref h_t_tape_bytes, .int t_tape_size])), (h_t_tape_bytes, .inl (cI, 60, .inl a_t_tape_bytes)), (h_t_told, .inr (1, [.int t_told_genus, .int t_told_size, .ref h_t_told_powers, .int t_told_limit, .long t_told_tree])), (h_t_told_powers, .inl (cI, 8, .inl a_t_told_powers))] sz [.ref h_t]) (va_Qi (fun r (_ : Unit) => r = r0 ∧ narrow .boolean (.int r0) = .int r0) (fun _ t => va_P G vwCl [(h_t, .inr (4, [.ref h_t_tape, .ref h_t_told, .ref h_t_causes, .int t_refused, .int w1, .int w2])), (h_t_tape, .inr (6, [.ref h_t_tape_bytes, .int t_tape_size])), (h_t_tape_bytes, .inl (cI, 60, .inl a_t_tape_bytes)), (h_t_told, .inr (1, [.int w3, .int w4, .ref h_t_told_powers, .int w5, .long w6])), (h_t_told_powers, .inl (cI, 8, .inl w0))] t.heap) (va_A [(h_t, .inr (4, [.ref h_t_tape, .ref h_t_told, .ref h_t_causes, .int t_refused, .int t_place, .int t_cannotBe])), (h_t_tape, .inr (6, [.ref h_t_tape_bytes, .int t_tape_size])), (h_t_tape_bytes, .inl (cI, 60, .inl a_t_tape_bytes)), (h_t_told, .inr (1, [.int t_told_genus, .int t_told_size, .ref h_t_told_powers, .int t_told_limit, .long t_told_tree])), (h_t_told_powers, .inl (cI, 8, .inl a_t_told_powers))] sz)) 0 0 (va_A [(h_t, .inr (4, [.ref h_t_tape, .ref h_t_told, .ref h_t_causes, .int t_refused, .int t_place, .int t_cannotBe])), (h_t_tape, .inr (6, [.ref h_t_tape_bytes, .int t_tape_size])), (h_t_tape_bytes, .inl (cI, 60, .inl a_t_tape_bytes)), (h_t_told, .inr (1, [.int t_told_genus, .int t_told_size, .ref h_t_told_powers, .int t_told_limit, .long t_told_tree])), (h_t_told_powers, .inl (cI, 8, .inl a_t_told_powers))] sz) := by
  refine Met.ofW (cc := cX4_readText) (maxL := 1) (ret := (some .boolean)) (by decide) rfl ?_
  intro p e s m args below meth c s₁ B hml hv
  obtain ⟨rfl, hsz, hP, hK, hD0⟩ := hv
  have hx := B.exec
  have hb := B.bytes
  have hr := B.returns
  have hts := atoms_spec (ws := wsX4_readText) B.pre
  have hta : ∀ w ∈ wA, w.before ([.ref h_t] : List Value).toArray s = true := hta_of hts
  have hown : s.vm.findClass RX4 = some m.cls := findClass_of_methodNamed B.named
  have hlocks := B.notSynchronized
  subst hsz
  have hD := hD0.self (sz := s.heap.size)
  generalize hAe : va_A [(h_t, .inr (4, [.ref h_t_tape, .ref h_t_told, .ref h_t_causes, .int t_refused, .int t_place, .int t_cannotBe])), (h_t_tape, .inr (6, [.ref h_t_tape_bytes, .int t_tape_size])), (h_t_tape_bytes, .inl (cI, 60, .inl a_t_tape_bytes)), (h_t_told, .inr (1, [.int t_told_genus, .int t_told_size, .ref h_t_told_powers, .int t_told_limit, .long t_told_tree])), (h_t_told_powers, .inl (cI, 8, .inl a_t_told_powers))] s.heap.size = A at hD ⊢
  have hA : ∀ q : Nat, s.heap.size ≤ q → A q := fun q h => by rw [← hAe]; exact Or.inr h
  have hS : va_S A s.heap s.heap [] := va_S.rf
  have hl := lv_entry ([.ref h_t]) (n := 1) (Nat.le_of_ble_eq_true rfl)
  rw [lg_entry_eq]
  generalize (lg_sl ([.ref h_t]) ++ List.replicate (1 - (lg_sl ([.ref h_t])).length) Slot.unset).toArray = ls at hl ⊢
  have hl : lv_has ls 1 [(0, .ref h_t)] := hl
  have hinX4 : ∀ w ∈ wsX40, w ∈ wsX4_readText := hin_of in_X4
  have hinX7 : ∀ w ∈ wsX70, w ∈ wsX4_readText := hin_of in_X7
  have h := hF
  unfold F_X4_readText at h
  refine lv_aload_n hx hb dX4_readText_0 rfl (lv_at hl 0 rfl) ?_
  obtain ⟨x1, hx1, h⟩ := bd_e h
  try dsimp only at h
  refine k_ViM (n := 0) (As := []) (rest := []) hx hb hml hown hts (c_X4_readGenus l G cI cJ cD cH s.heap.size h_t h_t_tape h_t_tape_bytes h_t_told h_t_causes h_t_told_powers t_refused t_place t_cannotBe t_tape_size a_t_tape_bytes t_told_genus t_told_size t_told_limit t_told_tree (x1.1) (x1.2.1) (x1.2.2.1) (x1.2.2.2) hx1) gX4_readText_X4_readGenus rfl rfl rfl (by decide +kernel) ⟨by first | exact Nat.le_of_ble_eq_true rfl | (simp only [headSpec]; omega), by first | exact Nat.le_of_ble_eq_true rfl | (simp only [headSpec]; omega)⟩ hK hP hD hS hA [0, 1, 2, 3] (by decide) rfl rfl (ci := 4) rfl rfl rfl rfl rfl hl.1 (Nat.le_of_ble_eq_true rfl) dX4_readText_1 ⟨Nat.zero_le _, Nat.zero_le _⟩ [(h_t, .inr (4, [.ref h_t_tape, .ref h_t_told, .ref h_t_causes, .int t_refused, .int (x1.2.1), .int (x1.2.2.1)])), (h_t_tape, .inr (6, [.ref h_t_tape_bytes, .int t_tape_size])), (h_t_tape_bytes, .inl (cI, 60, .inl a_t_tape_bytes)), (h_t_told, .inr (1, [.int (x1.2.2.2), .int t_told_size, .ref h_t_told_powers, .int t_told_limit, .long t_told_tree])), (h_t_told_powers, .inl (cI, 8, .inl a_t_told_powers))] [1, 2, 3, 4, 0] 4 (by decide +kernel) rfl rfl rfl (fun hp1 H locs hP hD hS => ?_)
  refine lv_if_eq (tgt := 23) hx hb dX4_readText_4 (by decide) (fun c2 => ?_) (fun c2 => ?_)
  · have h := it_p h c2
    refine lv_iconst (v := (0 : Int32)) hx hb dX4_readText_23 (by decide) ?_
    have h9 := Option.some.inj h
    have e9 : (0 : Int32) = r0 := congrArg (fun z9 => z9.1) h9
    rw [← e9]
    have e9 : a_t_told_powers = w0 := congrArg (fun z9 => z9.2.1) h9
    rw [← e9]
    have e9 : (x1.2.1) = w1 := congrArg (fun z9 => z9.2.2.1) h9
    rw [← e9]
    have e9 : (x1.2.2.1) = w2 := congrArg (fun z9 => z9.2.2.2.1) h9
    rw [← e9]
    have e9 : (x1.2.2.2) = w3 := congrArg (fun z9 => z9.2.2.2.2.1) h9
    rw [← e9]
    have e9 : t_told_size = w4 := congrArg (fun z9 => z9.2.2.2.2.2.1) h9
    rw [← e9]
    have e9 : t_told_limit = w5 := congrArg (fun z9 => z9.2.2.2.2.2.2.1) h9
    rw [← e9]
    have e9 : t_told_tree = w6 := congrArg (fun z9 => z9.2.2.2.2.2.2.2) h9
    rw [← e9]
    exact k_zret hx hb hr hlocks hP hS rfl rfl dX4_readText_24
  have h := it_n h c2
  refine lv_aload_n hx hb dX4_readText_7 rfl (lv_at hl 0 rfl) ?_
  refine lv_bipush (v := (58 : Int32)) hx hb dX4_readText_8 (by decide) ?_
  obtain ⟨x3, hx3, h⟩ := bd_e h
  try dsimp only at h
  refine k_ViM (n := 1) (As := [.int (58 : Int32)]) (rest := []) hx hb hml hown hts (c_X4_readSign l G cI cJ cD cH H.size h_t h_t_tape h_t_tape_bytes h_t_told h_t_causes t_refused (x1.2.1) (x1.2.2.1) t_tape_size a_t_tape_bytes (58 : Int32) (x3.1) (x3.2) hx3) gX4_readText_X4_readSign rfl rfl rfl (by decide +kernel) ⟨by first | exact Nat.le_of_ble_eq_true rfl | (simp only [headSpec]; omega), by first | exact Nat.le_of_ble_eq_true rfl | (simp only [headSpec]; omega)⟩ hK hP hD hS hA [0, 1, 2] (by decide) rfl rfl (ci := 4) rfl rfl rfl rfl rfl hl.1 (Nat.le_of_ble_eq_true rfl) dX4_readText_10 ⟨Nat.zero_le _, Nat.zero_le _⟩ [(h_t, .inr (4, [.ref h_t_tape, .ref h_t_told, .ref h_t_causes, .int t_refused, .int (x3.2), .int (x1.2.2.1)])), (h_t_tape, .inr (6, [.ref h_t_tape_bytes, .int t_tape_size])), (h_t_tape_bytes, .inl (cI, 60, .inl a_t_tape_bytes)), (h_t_told, .inr (1, [.int (x1.2.2.2), .int t_told_size, .ref h_t_told_powers, .int t_told_limit, .long t_told_tree])), (h_t_told_powers, .inl (cI, 8, .inl a_t_told_powers))] [1, 2, 3, 0, 0] 3 (by decide +kernel) rfl rfl rfl (fun hp3 H locs hP hD hS => ?_)
  refine lv_if_eq (tgt := 23) hx hb dX4_readText_13 (by decide) (fun c4 => ?_) (fun c4 => ?_)
  · have h := it_p h c4
    refine lv_iconst (v := (0 : Int32)) hx hb dX4_readText_23 (by decide) ?_
    have h9 := Option.some.inj h
    have e9 : (0 : Int32) = r0 := congrArg (fun z9 => z9.1) h9
    rw [← e9]
    have e9 : a_t_told_powers = w0 := congrArg (fun z9 => z9.2.1) h9
    rw [← e9]
    have e9 : (x3.2) = w1 := congrArg (fun z9 => z9.2.2.1) h9
    rw [← e9]
    have e9 : (x1.2.2.1) = w2 := congrArg (fun z9 => z9.2.2.2.1) h9
    rw [← e9]
    have e9 : (x1.2.2.2) = w3 := congrArg (fun z9 => z9.2.2.2.2.1) h9
    rw [← e9]
    have e9 : t_told_size = w4 := congrArg (fun z9 => z9.2.2.2.2.2.1) h9
    rw [← e9]
    have e9 : t_told_limit = w5 := congrArg (fun z9 => z9.2.2.2.2.2.2.1) h9
    rw [← e9]
    have e9 : t_told_tree = w6 := congrArg (fun z9 => z9.2.2.2.2.2.2.2) h9
    rw [← e9]
    exact k_zret hx hb hr hlocks hP hS rfl rfl dX4_readText_24
  have h := it_n h c4
  refine lv_aload_n hx hb dX4_readText_16 rfl (lv_at hl 0 rfl) ?_
  obtain ⟨x5, hx5, h⟩ := bd_e h
  try dsimp only at h
  refine k_ViM (n := 0) (As := []) (rest := []) hx hb hml hown hts (c_X4_readMarks l G cI cJ cD cH H.size h_t h_t_told h_t_tape h_t_tape_bytes h_t_told_powers h_t_causes t_refused (x3.2) (x1.2.2.1) (x1.2.2.2) t_told_size t_told_limit t_told_tree t_tape_size a_t_tape_bytes a_t_told_powers (x5.1) (x5.2.1) (x5.2.2.1) (x5.2.2.2.1) (x5.2.2.2.2) hx5) gX4_readText_X4_readMarks rfl rfl rfl (by decide +kernel) ⟨by first | exact Nat.le_of_ble_eq_true rfl | (simp only [headSpec]; omega), by first | exact Nat.le_of_ble_eq_true rfl | (simp only [headSpec]; omega)⟩ hK hP hD hS hA [0, 3, 1, 2, 4] (by decide) rfl rfl (ci := 4) rfl rfl rfl rfl rfl hl.1 (Nat.le_of_ble_eq_true rfl) dX4_readText_17 ⟨Nat.zero_le _, Nat.zero_le _⟩ [(h_t, .inr (4, [.ref h_t_tape, .ref h_t_told, .ref h_t_causes, .int t_refused, .int (x5.2.2.1), .int (x5.2.2.2.1)])), (h_t_tape, .inr (6, [.ref h_t_tape_bytes, .int t_tape_size])), (h_t_tape_bytes, .inl (cI, 60, .inl a_t_tape_bytes)), (h_t_told, .inr (1, [.int (x1.2.2.2), .int (x5.2.2.2.2), .ref h_t_told_powers, .int t_told_limit, .long t_told_tree])), (h_t_told_powers, .inl (cI, 8, .inl (x5.2.1)))] [1, 3, 4, 2, 5] 5 (by decide +kernel) rfl rfl rfl (fun hp5 H locs hP hD hS => ?_)
  refine lv_if_ne (tgt := 25) hx hb dX4_readText_20 (by decide) (fun c6 => ?_) (fun c6 => ?_)
  rotate_left
  · have h := it_p h c6
    refine lv_iconst (v := (0 : Int32)) hx hb dX4_readText_23 (by decide) ?_
    have h9 := Option.some.inj h
    have e9 : (0 : Int32) = r0 := congrArg (fun z9 => z9.1) h9
    rw [← e9]
    have e9 : (x5.2.1) = w0 := congrArg (fun z9 => z9.2.1) h9
    rw [← e9]
    have e9 : (x5.2.2.1) = w1 := congrArg (fun z9 => z9.2.2.1) h9
    rw [← e9]
    have e9 : (x5.2.2.2.1) = w2 := congrArg (fun z9 => z9.2.2.2.1) h9
    rw [← e9]
    have e9 : (x1.2.2.2) = w3 := congrArg (fun z9 => z9.2.2.2.2.1) h9
    rw [← e9]
    have e9 : (x5.2.2.2.2) = w4 := congrArg (fun z9 => z9.2.2.2.2.2.1) h9
    rw [← e9]
    have e9 : t_told_limit = w5 := congrArg (fun z9 => z9.2.2.2.2.2.2.1) h9
    rw [← e9]
    have e9 : t_told_tree = w6 := congrArg (fun z9 => z9.2.2.2.2.2.2.2) h9
    rw [← e9]
    exact k_zret hx hb hr hlocks hP hS rfl rfl dX4_readText_24
  have h := it_n h c6
  refine lv_aload_n hx hb dX4_readText_25 rfl (lv_at hl 0 rfl) ?_
  refine lv_bipush (v := (47 : Int32)) hx hb dX4_readText_26 (by decide) ?_
  obtain ⟨x7, hx7, h⟩ := bd_e h
  try dsimp only at h
  refine k_ViM (n := 1) (As := [.int (47 : Int32)]) (rest := []) hx hb hml hown hts (c_X4_readSign l G cI cJ cD cH H.size h_t h_t_tape h_t_tape_bytes h_t_told h_t_causes t_refused (x5.2.2.1) (x5.2.2.2.1) t_tape_size a_t_tape_bytes (47 : Int32) (x7.1) (x7.2) hx7) gX4_readText_X4_readSign rfl rfl rfl (by decide +kernel) ⟨by first | exact Nat.le_of_ble_eq_true rfl | (simp only [headSpec]; omega), by first | exact Nat.le_of_ble_eq_true rfl | (simp only [headSpec]; omega)⟩ hK hP hD hS hA [0, 1, 2] (by decide) rfl rfl (ci := 4) rfl rfl rfl rfl rfl hl.1 (Nat.le_of_ble_eq_true rfl) dX4_readText_28 ⟨Nat.zero_le _, Nat.zero_le _⟩ [(h_t, .inr (4, [.ref h_t_tape, .ref h_t_told, .ref h_t_causes, .int t_refused, .int (x7.2), .int (x5.2.2.2.1)])), (h_t_tape, .inr (6, [.ref h_t_tape_bytes, .int t_tape_size])), (h_t_tape_bytes, .inl (cI, 60, .inl a_t_tape_bytes)), (h_t_told, .inr (1, [.int (x1.2.2.2), .int (x5.2.2.2.2), .ref h_t_told_powers, .int t_told_limit, .long t_told_tree])), (h_t_told_powers, .inl (cI, 8, .inl (x5.2.1)))] [1, 2, 3, 0, 0] 3 (by decide +kernel) rfl rfl rfl (fun hp7 H locs hP hD hS => ?_)
  refine lv_if_eq (tgt := 50) hx hb dX4_readText_31 (by decide) (fun c9 => ?_) (fun c9 => ?_)
  · have h := it_p h c9
    exact tJ_X4_readText_50 hx hb hr hml hts hown hlocks hK hA (x7.2) (x5.2.2.2.1) t_told_limit t_told_tree _ _ _ hP hD hS (lv_sub hl [0] rfl) h
  have h := it_n h c9
  refine lv_aload_n hx hb dX4_readText_34 rfl (lv_at hl 0 rfl) ?_
  obtain ⟨x10, hx10, h⟩ := bd_e h
  try dsimp only at h
  refine k_ViM (n := 0) (As := []) (rest := []) hx hb hml hown hts (c_X4_readLeafCount l G cI cJ cD cH H.size h_t h_t_tape h_t_tape_bytes h_t_told h_t_causes h_t_told_powers t_refused (x7.2) (x5.2.2.2.1) t_tape_size a_t_tape_bytes (x1.2.2.2) (x5.2.2.2.2) t_told_limit t_told_tree (x10.1) (x10.2.1) (x10.2.2.1) (x10.2.2.2.1) (x10.2.2.2.2) hx10) gX4_readText_X4_readLeafCount rfl rfl rfl (by decide +kernel) ⟨by first | exact Nat.le_of_ble_eq_true rfl | (simp only [headSpec]; omega), by first | exact Nat.le_of_ble_eq_true rfl | (simp only [headSpec]; omega)⟩ hK hP hD hS hA [0, 1, 2, 3] (by decide) rfl rfl (ci := 4) rfl rfl rfl rfl rfl hl.1 (Nat.le_of_ble_eq_true rfl) dX4_readText_35 ⟨Nat.zero_le _, Nat.zero_le _⟩ [(h_t, .inr (4, [.ref h_t_tape, .ref h_t_told, .ref h_t_causes, .int t_refused, .int (x10.2.1), .int (x10.2.2.1)])), (h_t_tape, .inr (6, [.ref h_t_tape_bytes, .int t_tape_size])), (h_t_tape_bytes, .inl (cI, 60, .inl a_t_tape_bytes)), (h_t_told, .inr (1, [.int (x1.2.2.2), .int (x5.2.2.2.2), .ref h_t_told_powers, .int (x10.2.2.2.1), .long (x10.2.2.2.2)])), (h_t_told_powers, .inl (cI, 8, .inl (x5.2.1)))] [1, 2, 3, 4, 0] 4 (by decide +kernel) rfl rfl rfl (fun hp10 H locs hP hD hS => ?_)
  refine lv_if_eq (tgt := 48) hx hb dX4_readText_38 (by decide) (fun c11 => ?_) (fun c11 => ?_)
  · have h := it_p h c11
    refine lv_iconst (v := (0 : Int32)) hx hb dX4_readText_48 (by decide) ?_
    have h9 := Option.some.inj h
    have e9 : (0 : Int32) = r0 := congrArg (fun z9 => z9.1) h9
    rw [← e9]
    have e9 : (x5.2.1) = w0 := congrArg (fun z9 => z9.2.1) h9
    rw [← e9]
    have e9 : (x10.2.1) = w1 := congrArg (fun z9 => z9.2.2.1) h9
    rw [← e9]
    have e9 : (x10.2.2.1) = w2 := congrArg (fun z9 => z9.2.2.2.1) h9
    rw [← e9]
    have e9 : (x1.2.2.2) = w3 := congrArg (fun z9 => z9.2.2.2.2.1) h9
    rw [← e9]
    have e9 : (x5.2.2.2.2) = w4 := congrArg (fun z9 => z9.2.2.2.2.2.1) h9
    rw [← e9]
    have e9 : (x10.2.2.2.1) = w5 := congrArg (fun z9 => z9.2.2.2.2.2.2.1) h9
    rw [← e9]
    have e9 : (x10.2.2.2.2) = w6 := congrArg (fun z9 => z9.2.2.2.2.2.2.2) h9
    rw [← e9]
    exact k_zret hx hb hr hlocks hP hS rfl rfl dX4_readText_49
  have h := it_n h c11
  refine lv_aload_n hx hb dX4_readText_41 rfl (lv_at hl 0 rfl) ?_
  obtain ⟨x12, hx12, h⟩ := bd_e h
  try dsimp only at h
  refine k_ViM (n := 0) (As := []) (rest := []) hx hb hml hown hts (c_X4_readSplits l G cI cJ cD cH H.size h_t h_t_tape h_t_tape_bytes h_t_told h_t_causes h_t_told_powers t_refused (x10.2.1) (x10.2.2.1) t_tape_size a_t_tape_bytes (x1.2.2.2) (x5.2.2.2.2) (x10.2.2.2.1) (x10.2.2.2.2) (x12.1) (x12.2.1) (x12.2.2.1) (x12.2.2.2) hx12) gX4_readText_X4_readSplits rfl rfl rfl (by decide +kernel) ⟨by first | exact Nat.le_of_ble_eq_true rfl | (simp only [headSpec]; omega), by first | exact Nat.le_of_ble_eq_true rfl | (simp only [headSpec]; omega)⟩ hK hP hD hS hA [0, 1, 2, 3] (by decide) rfl rfl (ci := 4) rfl rfl rfl rfl rfl hl.1 (Nat.le_of_ble_eq_true rfl) dX4_readText_42 ⟨Nat.zero_le _, Nat.zero_le _⟩ [(h_t, .inr (4, [.ref h_t_tape, .ref h_t_told, .ref h_t_causes, .int t_refused, .int (x12.2.1), .int (x12.2.2.1)])), (h_t_tape, .inr (6, [.ref h_t_tape_bytes, .int t_tape_size])), (h_t_tape_bytes, .inl (cI, 60, .inl a_t_tape_bytes)), (h_t_told, .inr (1, [.int (x1.2.2.2), .int (x5.2.2.2.2), .ref h_t_told_powers, .int (x10.2.2.2.1), .long (x12.2.2.2)])), (h_t_told_powers, .inl (cI, 8, .inl (x5.2.1)))] [1, 2, 3, 4, 0] 4 (by decide +kernel) rfl rfl rfl (fun hp12 H locs hP hD hS => ?_)
  refine lv_if_ne (tgt := 50) hx hb dX4_readText_45 (by decide) (fun c13 => ?_) (fun c13 => ?_)
  · have h := it_n h c13
    exact tJ_X4_readText_50 hx hb hr hml hts hown hlocks hK hA (x12.2.1) (x12.2.2.1) (x10.2.2.2.1) (x12.2.2.2) _ _ _ hP hD hS (lv_sub hl [0] rfl) h
  have h := it_p h c13
  refine lv_iconst (v := (0 : Int32)) hx hb dX4_readText_48 (by decide) ?_
  have h9 := Option.some.inj h
  have e9 : (0 : Int32) = r0 := congrArg (fun z9 => z9.1) h9
  rw [← e9]
  have e9 : (x5.2.1) = w0 := congrArg (fun z9 => z9.2.1) h9
  rw [← e9]
  have e9 : (x12.2.1) = w1 := congrArg (fun z9 => z9.2.2.1) h9
  rw [← e9]
  have e9 : (x12.2.2.1) = w2 := congrArg (fun z9 => z9.2.2.2.1) h9
  rw [← e9]
  have e9 : (x1.2.2.2) = w3 := congrArg (fun z9 => z9.2.2.2.2.1) h9
  rw [← e9]
  have e9 : (x5.2.2.2.2) = w4 := congrArg (fun z9 => z9.2.2.2.2.2.1) h9
  rw [← e9]
  have e9 : (x10.2.2.2.1) = w5 := congrArg (fun z9 => z9.2.2.2.2.2.2.1) h9
  rw [← e9]
  have e9 : (x12.2.2.2) = w6 := congrArg (fun z9 => z9.2.2.2.2.2.2.2) h9
  rw [← e9]
  exact k_zret hx hb hr hlocks hP hS rfl rfl dX4_readText_49

/-! X7_firstOf -/
set_option maxHeartbeats 4000000 in
set_option maxRecDepth 100000 in
theorem c_X7_firstOf (l : Launch) (G : va_G) (cI cJ cD cH : ClassId) (sz : Nat) (h_t : Nat) (h_t_bytes : Nat) (t_size : Int32) (a_t_bytes : Nat → Int32) (p0 : Int32) (p1 : Int32) (r0 : Int32) (hF : F_X7_firstOf t_size a_t_bytes p0 p1 = some r0) : Met l yX7_firstOf wsX7_firstOf ({ frames := 1, cells := 0, slots := 0, locals := 21 }) (k_pre G (k_T cI cJ cD cH) [(h_t, .inr (6, [.ref h_t_bytes, .int t_size])), (h_t_bytes, .inl (cI, 60, .inl a_t_bytes))] sz [.ref h_t, .int p0, .int p1]) (va_Qi (fun r (_ : Unit) => r = r0 ∧ True) (fun _ t => va_P G vwCl [(h_t, .inr (6, [.ref h_t_bytes, .int t_size])), (h_t_bytes, .inl (cI, 60, .inl a_t_bytes))] t.heap) (va_A [(h_t, .inr (6, [.ref h_t_bytes, .int t_size])), (h_t_bytes, .inl (cI, 60, .inl a_t_bytes))] sz)) 0 0 (va_A [(h_t, .inr (6, [.ref h_t_bytes, .int t_size])), (h_t_bytes, .inl (cI, 60, .inl a_t_bytes))] sz) := by
  refine Met.ofW (cc := cX7_firstOf) (maxL := 4) (ret := (some .int)) (by decide) rfl ?_
  intro p e s m args below meth c s₁ B hml hv
  obtain ⟨rfl, hsz, hP, hK, hD0⟩ := hv
  have hx := B.exec
  have hb := B.bytes
  have hr := B.returns
  have hts := atoms_spec (ws := wsX7_firstOf) B.pre
  have hta : ∀ w ∈ wA, w.before ([.ref h_t, .int p0, .int p1] : List Value).toArray s = true := hta_of hts
  have hown : s.vm.findClass RX7 = some m.cls := findClass_of_methodNamed B.named
  have hlocks := B.notSynchronized
  subst hsz
  have hD := hD0.self (sz := s.heap.size)
  generalize hAe : va_A [(h_t, .inr (6, [.ref h_t_bytes, .int t_size])), (h_t_bytes, .inl (cI, 60, .inl a_t_bytes))] s.heap.size = A at hD ⊢
  have hA : ∀ q : Nat, s.heap.size ≤ q → A q := fun q h => by rw [← hAe]; exact Or.inr h
  have hS : va_S A s.heap s.heap [] := va_S.rf
  have hl := lv_entry ([.ref h_t, .int p0, .int p1]) (n := 4) (Nat.le_of_ble_eq_true rfl)
  rw [lg_entry_eq]
  generalize (lg_sl ([.ref h_t, .int p0, .int p1]) ++ List.replicate (4 - (lg_sl ([.ref h_t, .int p0, .int p1])).length) Slot.unset).toArray = ls at hl ⊢
  have hl : lv_has ls 4 [(0, .ref h_t), (1, .int p0), (2, .int p1)] := hl
  have h := hF
  unfold F_X7_firstOf at h
  refine lv_iconst (v := (0 : Int32)) hx hb dX7_firstOf_0 (by decide) ?_
  refine lv_istore_n (lv' := [(3, .int (0 : Int32)), (0, .ref h_t), (1, .int p0), (2, .int p1)]) hx hb dX7_firstOf_1 rfl hl (by decide) rfl (fun ls hl => ?_)
  have hK_X7_firstOf_2_24 : ∀ (H : Heap) (locs : List Loc) (ls : Array Slot), va_P G vwCl [(h_t, .inr (6, [.ref h_t_bytes, .int t_size])), (h_t_bytes, .inl (cI, 60, .inl a_t_bytes))] H → va_D A [(h_t, .inr (6, [.ref h_t_bytes, .int t_size])), (h_t_bytes, .inl (cI, 60, .inl a_t_bytes))] → va_S A s.heap H locs → lv_has ls 4 [] → K_X7_firstOf_2_24 = some r0 → W p l e (headSpec wsX7_firstOf ({ frames := 1, cells := 0, slots := 0, locals := 21 })).room s m ([.ref h_t, .int p0, .int p1] : List Value).toArray below meth c H locs 0 0 (MQ below (va_Qi (fun r (_ : Unit) => r = r0 ∧ True) (fun _ t => va_P G vwCl [(h_t, .inr (6, [.ref h_t_bytes, .int t_size])), (h_t_bytes, .inl (cI, 60, .inl a_t_bytes))] t.heap) A) ([.ref h_t, .int p0, .int p1] : List Value).toArray s 0 0 A) (F0 m 24 ls []) := by
    intro  H locs ls hP hD hS hl h
    unfold K_X7_firstOf_2_24 at h
    refine lv_iconst (v := (-1 : Int32)) hx hb dX7_firstOf_24 (by decide) ?_
    have h9 := Option.some.inj h
    have e9 : (-1 : Int32) = r0 := congrArg (fun z9 => z9) h9
    rw [← e9]
    exact k_iret hx hb hr hlocks hP hS rfl dX7_firstOf_25
  have hL2 : ∀ (n2 : Nat) (vL2_0 : Int32) (H : Heap) (locs : List Loc) (ls : Array Slot), va_P G vwCl [(h_t, .inr (6, [.ref h_t_bytes, .int t_size])), (h_t_bytes, .inl (cI, 60, .inl a_t_bytes))] H → va_D A [(h_t, .inr (6, [.ref h_t_bytes, .int t_size])), (h_t_bytes, .inl (cI, 60, .inl a_t_bytes))] → va_S A s.heap H locs → lv_has ls 4 [(0, .ref h_t), (1, .int p0), (2, .int p1), (3, .int vL2_0)] → wq1 (B_X7_firstOf_2 t_size a_t_bytes p0 p1 K_X7_firstOf_2_24) n2 vL2_0 = some r0 → W p l e (headSpec wsX7_firstOf ({ frames := 1, cells := 0, slots := 0, locals := 21 })).room s m ([.ref h_t, .int p0, .int p1] : List Value).toArray below meth c H locs 0 0 (MQ below (va_Qi (fun r (_ : Unit) => r = r0 ∧ True) (fun _ t => va_P G vwCl [(h_t, .inr (6, [.ref h_t_bytes, .int t_size])), (h_t_bytes, .inl (cI, 60, .inl a_t_bytes))] t.heap) A) ([.ref h_t, .int p0, .int p1] : List Value).toArray s 0 0 A) (F0 m 2 ls []) := by
    intro n2
    induction n2 with
    | zero => intro vL2_0 H locs ls hP hD hS hl h; exact wq1_0 h
    | succ n2 ih2 =>
      intro vL2_0 H locs ls hP hD hS hl h
      have h := wq1_s h
      unfold B_X7_firstOf_2 at h
      refine lv_iload_n hx hb dX7_firstOf_2 rfl (lv_at hl 3 rfl) ?_
      refine lv_iload_n hx hb dX7_firstOf_3 rfl (lv_at hl 2 rfl) ?_
      refine lv_icmp_ge (tgt := 24) hx hb dX7_firstOf_4 (by decide) (fun c1 => ?_) (fun c1 => ?_)
      · have h := it_p h c1
        exact hK_X7_firstOf_2_24  _ _ _ hP hD hS (lv_sub hl [] rfl) h
      have h := it_n h c1
      refine lv_aload_n hx hb dX7_firstOf_7 rfl (lv_at hl 0 rfl) ?_
      refine lv_iload_n hx hb dX7_firstOf_8 rfl (lv_at hl 3 rfl) ?_
      obtain ⟨x2, hx2, h⟩ := bd_e h
      try dsimp only at h
      refine k_ViU (n := 1) (As := [.int vL2_0]) (rest := []) hx hb hml hown hts (c_X7_byteAt l G cI cJ cD cH H.size h_t h_t_bytes t_size a_t_bytes vL2_0 x2 hx2) gX7_firstOf_X7_byteAt rfl rfl rfl (by decide +kernel) ⟨by first | exact Nat.le_of_ble_eq_true rfl | (simp only [headSpec]; omega), by first | exact Nat.le_of_ble_eq_true rfl | (simp only [headSpec]; omega)⟩ hK hP hD hS hA [0, 1] (by decide) rfl (ci := 6) rfl rfl rfl rfl rfl hl.1 (Nat.le_of_ble_eq_true rfl) dX7_firstOf_9 ⟨Nat.zero_le _, Nat.zero_le _⟩ (fun hp2 H locs hP hS => ?_)
      refine lv_iload_n hx hb dX7_firstOf_12 rfl (lv_at hl 1 rfl) ?_
      refine lv_icmp_ne (tgt := 18) hx hb dX7_firstOf_13 (by decide) (fun c3 => ?_) (fun c3 => ?_)
      · have h := it_n h c3
        refine lv_iinc (v := (vL2_0 + (1 : Int32))) (lv' := [(3, .int (vL2_0 + (1 : Int32))), (0, .ref h_t), (1, .int p0), (2, .int p1)]) hx hb dX7_firstOf_18 hl (k := 3) rfl (by first | rfl | decide) (by decide) rfl (fun ls hl => ?_)
        refine lv_goto (tgt := 2) hx hb dX7_firstOf_21 (by decide) ?_
        exact ih2 (vL2_0 + (1 : Int32)) _ _ _ hP hD hS (lv_sub hl [1, 2, 3, 0] rfl) h
      have h := it_p h c3
      refine lv_iload_n hx hb dX7_firstOf_16 rfl (lv_at hl 3 rfl) ?_
      have h9 := Option.some.inj h
      have e9 : vL2_0 = r0 := congrArg (fun z9 => z9) h9
      rw [← e9]
      exact k_iret hx hb hr hlocks hP hS rfl dX7_firstOf_17
  exact hL2 FU (0 : Int32) _ _ _ hP hD hS (lv_sub hl [1, 2, 3, 0] rfl) h

/-! X4_sortOf -/
set_option maxHeartbeats 4000000 in
set_option maxRecDepth 100000 in
theorem c_X4_sortOf (l : Launch) (G : va_G) (cI cJ cD cH : ClassId) (sz : Nat) (h_t : Nat) (h_t_tape : Nat) (h_t_tape_bytes : Nat) (h_t_told : Nat) (h_t_causes : Nat) (t_refused : Int32) (t_place : Int32) (t_cannotBe : Int32) (t_tape_size : Int32) (a_t_tape_bytes : Nat → Int32) (p0 : Int32) (r0 : Int32) (hF : F_X4_sortOf t_tape_size a_t_tape_bytes p0 = some r0) : Met l yX4_sortOf wsX4_sortOf ({ frames := 2, cells := 0, slots := 0, locals := 44 }) (k_pre G (k_T cI cJ cD cH) [(h_t, .inr (4, [.ref h_t_tape, .ref h_t_told, .ref h_t_causes, .int t_refused, .int t_place, .int t_cannotBe])), (h_t_tape, .inr (6, [.ref h_t_tape_bytes, .int t_tape_size])), (h_t_tape_bytes, .inl (cI, 60, .inl a_t_tape_bytes))] sz [.ref h_t, .int p0]) (va_Qi (fun r (_ : Unit) => r = r0 ∧ True) (fun _ t => va_P G vwCl [(h_t, .inr (4, [.ref h_t_tape, .ref h_t_told, .ref h_t_causes, .int t_refused, .int t_place, .int t_cannotBe])), (h_t_tape, .inr (6, [.ref h_t_tape_bytes, .int t_tape_size])), (h_t_tape_bytes, .inl (cI, 60, .inl a_t_tape_bytes))] t.heap) (va_A [(h_t, .inr (4, [.ref h_t_tape, .ref h_t_told, .ref h_t_causes, .int t_refused, .int t_place, .int t_cannotBe])), (h_t_tape, .inr (6, [.ref h_t_tape_bytes, .int t_tape_size])), (h_t_tape_bytes, .inl (cI, 60, .inl a_t_tape_bytes))] sz)) 0 0 (va_A [(h_t, .inr (4, [.ref h_t_tape, .ref h_t_told, .ref h_t_causes, .int t_refused, .int t_place, .int t_cannotBe])), (h_t_tape, .inr (6, [.ref h_t_tape_bytes, .int t_tape_size])), (h_t_tape_bytes, .inl (cI, 60, .inl a_t_tape_bytes))] sz) := by
  refine Met.ofW (cc := cX4_sortOf) (maxL := 3) (ret := (some .int)) (by decide) rfl ?_
  intro p e s m args below meth c s₁ B hml hv
  obtain ⟨rfl, hsz, hP, hK, hD0⟩ := hv
  have hx := B.exec
  have hb := B.bytes
  have hr := B.returns
  have hts := atoms_spec (ws := wsX4_sortOf) B.pre
  have hta : ∀ w ∈ wA, w.before ([.ref h_t, .int p0] : List Value).toArray s = true := hta_of hts
  have hown : s.vm.findClass RX4 = some m.cls := findClass_of_methodNamed B.named
  have hlocks := B.notSynchronized
  subst hsz
  have hD := hD0.self (sz := s.heap.size)
  generalize hAe : va_A [(h_t, .inr (4, [.ref h_t_tape, .ref h_t_told, .ref h_t_causes, .int t_refused, .int t_place, .int t_cannotBe])), (h_t_tape, .inr (6, [.ref h_t_tape_bytes, .int t_tape_size])), (h_t_tape_bytes, .inl (cI, 60, .inl a_t_tape_bytes))] s.heap.size = A at hD ⊢
  have hA : ∀ q : Nat, s.heap.size ≤ q → A q := fun q h => by rw [← hAe]; exact Or.inr h
  have hS : va_S A s.heap s.heap [] := va_S.rf
  have hl := lv_entry ([.ref h_t, .int p0]) (n := 3) (Nat.le_of_ble_eq_true rfl)
  rw [lg_entry_eq]
  generalize (lg_sl ([.ref h_t, .int p0]) ++ List.replicate (3 - (lg_sl ([.ref h_t, .int p0])).length) Slot.unset).toArray = ls at hl ⊢
  have hl : lv_has ls 3 [(0, .ref h_t), (1, .int p0)] := hl
  have hinX4 : ∀ w ∈ wsX40, w ∈ wsX4_sortOf := hin_of in_X4
  have h := hF
  unfold F_X4_sortOf at h
  refine lv_iload_n hx hb dX4_sortOf_0 rfl (lv_at hl 1 rfl) ?_
  refine lv_if_ne (tgt := 6) hx hb dX4_sortOf_1 (by decide) (fun c1 => ?_) (fun c1 => ?_)
  rotate_left
  · have h := it_p h c1
    refine lv_iconst (v := (2 : Int32)) hx hb dX4_sortOf_4 (by decide) ?_
    have h9 := Option.some.inj h
    have e9 : (2 : Int32) = r0 := congrArg (fun z9 => z9) h9
    rw [← e9]
    exact k_iret hx hb hr hlocks hP hS rfl dX4_sortOf_5
  have h := it_n h c1
  refine lv_aload_n hx hb dX4_sortOf_6 rfl (lv_at hl 0 rfl) ?_
  refine va_get (D := G) (ci := 4) (v := .ref h_t_tape) (C := RX4) (T := TX4) (N := 6) hx hb hts hinX4 hown hK hP 0 rfl rfl 0 (by decide) (hta _ mw_177) (fun _ h9 => h9) rfl dX4_sortOf_7 ?_
  refine lv_bipush (v := (47 : Int32)) hx hb dX4_sortOf_10 (by decide) ?_
  refine lv_iload_n hx hb dX4_sortOf_12 rfl (lv_at hl 1 rfl) ?_
  obtain ⟨x2, hx2, h⟩ := bd_e h
  try dsimp only at h
  refine k_ViU (n := 2) (As := [.int (47 : Int32), .int p0]) (rest := []) hx hb hml hown hts (c_X7_firstOf l G cI cJ cD cH s.heap.size h_t_tape h_t_tape_bytes t_tape_size a_t_tape_bytes (47 : Int32) p0 x2 hx2) gX4_sortOf_X7_firstOf rfl rfl rfl (by decide +kernel) ⟨by first | exact Nat.le_of_ble_eq_true rfl | (simp only [headSpec]; omega), by first | exact Nat.le_of_ble_eq_true rfl | (simp only [headSpec]; omega)⟩ hK hP hD hS hA [1, 2] (by decide) rfl (ci := 6) rfl rfl rfl rfl rfl hl.1 (Nat.le_of_ble_eq_true rfl) dX4_sortOf_13 ⟨Nat.zero_le _, Nat.zero_le _⟩ (fun hp2 H locs hP hS => ?_)
  refine lv_istore_n (lv' := [(2, .int x2), (0, .ref h_t), (1, .int p0)]) hx hb dX4_sortOf_16 rfl hl (by decide) rfl (fun ls hl => ?_)
  refine lv_iload_n hx hb dX4_sortOf_17 rfl (lv_at hl 0 rfl) ?_
  refine lv_iconst (v := (-1 : Int32)) hx hb dX4_sortOf_18 (by decide) ?_
  refine lv_icmp_ne (tgt := 24) hx hb dX4_sortOf_19 (by decide) (fun c3 => ?_) (fun c3 => ?_)
  rotate_left
  · have h := it_p h c3
    refine lv_iconst (v := (3 : Int32)) hx hb dX4_sortOf_22 (by decide) ?_
    have h9 := Option.some.inj h
    have e9 : (3 : Int32) = r0 := congrArg (fun z9 => z9) h9
    rw [← e9]
    exact k_iret hx hb hr hlocks hP hS rfl dX4_sortOf_23
  have h := it_n h c3
  refine lv_iload_n hx hb dX4_sortOf_24 rfl (lv_at hl 2 rfl) ?_
  refine lv_iload_n hx hb dX4_sortOf_25 rfl (lv_at hl 0 rfl) ?_
  refine lv_iconst (v := (1 : Int32)) hx hb dX4_sortOf_26 (by decide) ?_
  refine lv_iadd hx hb dX4_sortOf_27 ?_
  refine lv_icmp_ne (tgt := 35) hx hb dX4_sortOf_28 (by decide) (fun c4 => ?_) (fun c4 => ?_)
  · have h := it_n h c4
    refine lv_iconst (v := (5 : Int32)) hx hb dX4_sortOf_35 (by decide) ?_
    have h9 := Option.some.inj h
    have e9 : (5 : Int32) = r0 := congrArg (fun z9 => z9) h9
    rw [← e9]
    exact k_iret hx hb hr hlocks hP hS rfl dX4_sortOf_36
  have h := it_p h c4
  refine lv_iconst (v := (4 : Int32)) hx hb dX4_sortOf_31 (by decide) ?_
  refine lv_goto (tgt := 36) hx hb dX4_sortOf_32 (by decide) ?_
  have h9 := Option.some.inj h
  have e9 : (4 : Int32) = r0 := congrArg (fun z9 => z9) h9
  rw [← e9]
  exact k_iret hx hb hr hlocks hP hS rfl dX4_sortOf_36

/-! X7_timesAhead -/
set_option maxHeartbeats 4000000 in
set_option maxRecDepth 100000 in
theorem c_X7_timesAhead (l : Launch) (G : va_G) (cI cJ cD cH : ClassId) (sz : Nat) (h_t : Nat) (h_t_bytes : Nat) (t_size : Int32) (a_t_bytes : Nat → Int32) (p0 : Int32) (p1 : Int32) (r0 : Int32) (hF : F_X7_timesAhead t_size a_t_bytes p0 p1 = some r0) : Met l yX7_timesAhead wsX7_timesAhead ({ frames := 1, cells := 0, slots := 0, locals := 21 }) (k_pre G (k_T cI cJ cD cH) [(h_t, .inr (6, [.ref h_t_bytes, .int t_size])), (h_t_bytes, .inl (cI, 60, .inl a_t_bytes))] sz [.ref h_t, .int p0, .int p1]) (va_Qi (fun r (_ : Unit) => r = r0 ∧ True) (fun _ t => va_P G vwCl [(h_t, .inr (6, [.ref h_t_bytes, .int t_size])), (h_t_bytes, .inl (cI, 60, .inl a_t_bytes))] t.heap) (va_A [(h_t, .inr (6, [.ref h_t_bytes, .int t_size])), (h_t_bytes, .inl (cI, 60, .inl a_t_bytes))] sz)) 0 0 (va_A [(h_t, .inr (6, [.ref h_t_bytes, .int t_size])), (h_t_bytes, .inl (cI, 60, .inl a_t_bytes))] sz) := by
  refine Met.ofW (cc := cX7_timesAhead) (maxL := 5) (ret := (some .int)) (by decide) rfl ?_
  intro p e s m args below meth c s₁ B hml hv
  obtain ⟨rfl, hsz, hP, hK, hD0⟩ := hv
  have hx := B.exec
  have hb := B.bytes
  have hr := B.returns
  have hts := atoms_spec (ws := wsX7_timesAhead) B.pre
  have hta : ∀ w ∈ wA, w.before ([.ref h_t, .int p0, .int p1] : List Value).toArray s = true := hta_of hts
  have hown : s.vm.findClass RX7 = some m.cls := findClass_of_methodNamed B.named
  have hlocks := B.notSynchronized
  subst hsz
  have hD := hD0.self (sz := s.heap.size)
  generalize hAe : va_A [(h_t, .inr (6, [.ref h_t_bytes, .int t_size])), (h_t_bytes, .inl (cI, 60, .inl a_t_bytes))] s.heap.size = A at hD ⊢
  have hA : ∀ q : Nat, s.heap.size ≤ q → A q := fun q h => by rw [← hAe]; exact Or.inr h
  have hS : va_S A s.heap s.heap [] := va_S.rf
  have hl := lv_entry ([.ref h_t, .int p0, .int p1]) (n := 5) (Nat.le_of_ble_eq_true rfl)
  rw [lg_entry_eq]
  generalize (lg_sl ([.ref h_t, .int p0, .int p1]) ++ List.replicate (5 - (lg_sl ([.ref h_t, .int p0, .int p1])).length) Slot.unset).toArray = ls at hl ⊢
  have hl : lv_has ls 5 [(0, .ref h_t), (1, .int p0), (2, .int p1)] := hl
  have h := hF
  unfold F_X7_timesAhead at h
  refine lv_iconst (v := (0 : Int32)) hx hb dX7_timesAhead_0 (by decide) ?_
  refine lv_istore_n (lv' := [(3, .int (0 : Int32)), (0, .ref h_t), (1, .int p0), (2, .int p1)]) hx hb dX7_timesAhead_1 rfl hl (by decide) rfl (fun ls hl => ?_)
  refine lv_iconst (v := (0 : Int32)) hx hb dX7_timesAhead_2 (by decide) ?_
  refine lv_istore (lv' := [(4, .int (0 : Int32)), (3, .int (0 : Int32)), (0, .ref h_t), (1, .int p0), (2, .int p1)]) hx hb dX7_timesAhead_3 hl (by decide) rfl (fun ls hl => ?_)
  have hK_X7_timesAhead_5_30 : ∀  (vK5_30_0 : Int32) (H : Heap) (locs : List Loc) (ls : Array Slot), va_P G vwCl [(h_t, .inr (6, [.ref h_t_bytes, .int t_size])), (h_t_bytes, .inl (cI, 60, .inl a_t_bytes))] H → va_D A [(h_t, .inr (6, [.ref h_t_bytes, .int t_size])), (h_t_bytes, .inl (cI, 60, .inl a_t_bytes))] → va_S A s.heap H locs → lv_has ls 5 [(3, .int vK5_30_0)] → K_X7_timesAhead_5_30 vK5_30_0 = some r0 → W p l e (headSpec wsX7_timesAhead ({ frames := 1, cells := 0, slots := 0, locals := 21 })).room s m ([.ref h_t, .int p0, .int p1] : List Value).toArray below meth c H locs 0 0 (MQ below (va_Qi (fun r (_ : Unit) => r = r0 ∧ True) (fun _ t => va_P G vwCl [(h_t, .inr (6, [.ref h_t_bytes, .int t_size])), (h_t_bytes, .inl (cI, 60, .inl a_t_bytes))] t.heap) A) ([.ref h_t, .int p0, .int p1] : List Value).toArray s 0 0 A) (F0 m 30 ls []) := by
    intro vK5_30_0 H locs ls hP hD hS hl h
    unfold K_X7_timesAhead_5_30 at h
    refine lv_iload_n hx hb dX7_timesAhead_30 rfl (lv_at hl 0 rfl) ?_
    have h9 := Option.some.inj h
    have e9 : vK5_30_0 = r0 := congrArg (fun z9 => z9) h9
    rw [← e9]
    exact k_iret hx hb hr hlocks hP hS rfl dX7_timesAhead_31
  have hL5 : ∀ (n5 : Nat) (vL5_0 : Int32) (vL5_1 : Int32) (H : Heap) (locs : List Loc) (ls : Array Slot), va_P G vwCl [(h_t, .inr (6, [.ref h_t_bytes, .int t_size])), (h_t_bytes, .inl (cI, 60, .inl a_t_bytes))] H → va_D A [(h_t, .inr (6, [.ref h_t_bytes, .int t_size])), (h_t_bytes, .inl (cI, 60, .inl a_t_bytes))] → va_S A s.heap H locs → lv_has ls 5 [(0, .ref h_t), (1, .int p0), (2, .int p1), (3, .int vL5_0), (4, .int vL5_1)] → wq2 (B_X7_timesAhead_5 t_size a_t_bytes p0 p1 K_X7_timesAhead_5_30) n5 vL5_0 vL5_1 = some r0 → W p l e (headSpec wsX7_timesAhead ({ frames := 1, cells := 0, slots := 0, locals := 21 })).room s m ([.ref h_t, .int p0, .int p1] : List Value).toArray below meth c H locs 0 0 (MQ below (va_Qi (fun r (_ : Unit) => r = r0 ∧ True) (fun _ t => va_P G vwCl [(h_t, .inr (6, [.ref h_t_bytes, .int t_size])), (h_t_bytes, .inl (cI, 60, .inl a_t_bytes))] t.heap) A) ([.ref h_t, .int p0, .int p1] : List Value).toArray s 0 0 A) (F0 m 5 ls []) := by
    intro n5
    induction n5 with
    | zero => intro vL5_0 vL5_1 H locs ls hP hD hS hl h; exact wq2_0 h
    | succ n5 ih5 =>
      intro vL5_0 vL5_1 H locs ls hP hD hS hl h
      have h := wq2_s h
      unfold B_X7_timesAhead_5 at h
      refine lv_iload hx hb dX7_timesAhead_5 (lv_at hl 4 rfl) ?_
      refine lv_iload_n hx hb dX7_timesAhead_7 rfl (lv_at hl 2 rfl) ?_
      refine lv_icmp_ge (tgt := 30) hx hb dX7_timesAhead_8 (by decide) (fun c1 => ?_) (fun c1 => ?_)
      · have h := it_p h c1
        exact hK_X7_timesAhead_5_30 vL5_0 _ _ _ hP hD hS (lv_sub hl [3] rfl) h
      have h := it_n h c1
      refine lv_aload_n hx hb dX7_timesAhead_11 rfl (lv_at hl 0 rfl) ?_
      refine lv_iload hx hb dX7_timesAhead_12 (lv_at hl 4 rfl) ?_
      obtain ⟨x2, hx2, h⟩ := bd_e h
      try dsimp only at h
      refine k_ViU (n := 1) (As := [.int vL5_1]) (rest := []) hx hb hml hown hts (c_X7_byteAt l G cI cJ cD cH H.size h_t h_t_bytes t_size a_t_bytes vL5_1 x2 hx2) gX7_timesAhead_X7_byteAt rfl rfl rfl (by decide +kernel) ⟨by first | exact Nat.le_of_ble_eq_true rfl | (simp only [headSpec]; omega), by first | exact Nat.le_of_ble_eq_true rfl | (simp only [headSpec]; omega)⟩ hK hP hD hS hA [0, 1] (by decide) rfl (ci := 6) rfl rfl rfl rfl rfl hl.1 (Nat.le_of_ble_eq_true rfl) dX7_timesAhead_14 ⟨Nat.zero_le _, Nat.zero_le _⟩ (fun hp2 H locs hP hS => ?_)
      refine lv_iload_n hx hb dX7_timesAhead_17 rfl (lv_at hl 1 rfl) ?_
      refine lv_icmp_ne (tgt := 24) hx hb dX7_timesAhead_18 (by decide) (fun c3 => ?_) (fun c3 => ?_)
      · have h := it_n h c3
        refine lv_iinc (v := (vL5_1 + (1 : Int32))) (lv' := [(4, .int (vL5_1 + (1 : Int32))), (0, .ref h_t), (1, .int p0), (2, .int p1), (3, .int vL5_0)]) hx hb dX7_timesAhead_24 hl (k := 4) rfl (by first | rfl | decide) (by decide) rfl (fun ls hl => ?_)
        refine lv_goto (tgt := 5) hx hb dX7_timesAhead_27 (by decide) ?_
        exact ih5 vL5_0 (vL5_1 + (1 : Int32)) _ _ _ hP hD hS (lv_sub hl [1, 2, 3, 4, 0] rfl) h
      have h := it_p h c3
      refine lv_iinc (v := (vL5_0 + (1 : Int32))) (lv' := [(3, .int (vL5_0 + (1 : Int32))), (0, .ref h_t), (1, .int p0), (2, .int p1), (4, .int vL5_1)]) hx hb dX7_timesAhead_21 hl (k := 3) rfl (by first | rfl | decide) (by decide) rfl (fun ls hl => ?_)
      refine lv_iinc (v := (vL5_1 + (1 : Int32))) (lv' := [(4, .int (vL5_1 + (1 : Int32))), (3, .int (vL5_0 + (1 : Int32))), (0, .ref h_t), (1, .int p0), (2, .int p1)]) hx hb dX7_timesAhead_24 hl (k := 4) rfl (by first | rfl | decide) (by decide) rfl (fun ls hl => ?_)
      refine lv_goto (tgt := 5) hx hb dX7_timesAhead_27 (by decide) ?_
      exact ih5 (vL5_0 + (1 : Int32)) (vL5_1 + (1 : Int32)) _ _ _ hP hD hS (lv_sub hl [2, 3, 4, 1, 0] rfl) h
  exact hL5 FU (0 : Int32) (0 : Int32) _ _ _ hP hD hS (lv_sub hl [2, 3, 4, 1, 0] rfl) h

/-! X4_signsAhead -/
set_option maxHeartbeats 4000000 in
set_option maxRecDepth 100000 in
theorem c_X4_signsAhead (l : Launch) (G : va_G) (cI cJ cD cH : ClassId) (sz : Nat) (h_t : Nat) (h_t_tape : Nat) (h_t_tape_bytes : Nat) (h_t_told : Nat) (h_t_causes : Nat) (t_refused : Int32) (t_place : Int32) (t_cannotBe : Int32) (t_tape_size : Int32) (a_t_tape_bytes : Nat → Int32) (p0 : Int32) (p1 : Int32) (r0 : Int32) (hF : F_X4_signsAhead t_tape_size a_t_tape_bytes p0 p1 = some r0) : Met l yX4_signsAhead wsX4_signsAhead ({ frames := 2, cells := 0, slots := 0, locals := 45 }) (k_pre G (k_T cI cJ cD cH) [(h_t, .inr (4, [.ref h_t_tape, .ref h_t_told, .ref h_t_causes, .int t_refused, .int t_place, .int t_cannotBe])), (h_t_tape, .inr (6, [.ref h_t_tape_bytes, .int t_tape_size])), (h_t_tape_bytes, .inl (cI, 60, .inl a_t_tape_bytes))] sz [.ref h_t, .int p0, .int p1]) (va_Qi (fun r (_ : Unit) => r = r0 ∧ True) (fun _ t => va_P G vwCl [(h_t, .inr (4, [.ref h_t_tape, .ref h_t_told, .ref h_t_causes, .int t_refused, .int t_place, .int t_cannotBe])), (h_t_tape, .inr (6, [.ref h_t_tape_bytes, .int t_tape_size])), (h_t_tape_bytes, .inl (cI, 60, .inl a_t_tape_bytes))] t.heap) (va_A [(h_t, .inr (4, [.ref h_t_tape, .ref h_t_told, .ref h_t_causes, .int t_refused, .int t_place, .int t_cannotBe])), (h_t_tape, .inr (6, [.ref h_t_tape_bytes, .int t_tape_size])), (h_t_tape_bytes, .inl (cI, 60, .inl a_t_tape_bytes))] sz)) 0 0 (va_A [(h_t, .inr (4, [.ref h_t_tape, .ref h_t_told, .ref h_t_causes, .int t_refused, .int t_place, .int t_cannotBe])), (h_t_tape, .inr (6, [.ref h_t_tape_bytes, .int t_tape_size])), (h_t_tape_bytes, .inl (cI, 60, .inl a_t_tape_bytes))] sz) := by
  refine Met.ofW (cc := cX4_signsAhead) (maxL := 3) (ret := (some .int)) (by decide) rfl ?_
  intro p e s m args below meth c s₁ B hml hv
  obtain ⟨rfl, hsz, hP, hK, hD0⟩ := hv
  have hx := B.exec
  have hb := B.bytes
  have hr := B.returns
  have hts := atoms_spec (ws := wsX4_signsAhead) B.pre
  have hta : ∀ w ∈ wA, w.before ([.ref h_t, .int p0, .int p1] : List Value).toArray s = true := hta_of hts
  have hown : s.vm.findClass RX4 = some m.cls := findClass_of_methodNamed B.named
  have hlocks := B.notSynchronized
  subst hsz
  have hD := hD0.self (sz := s.heap.size)
  generalize hAe : va_A [(h_t, .inr (4, [.ref h_t_tape, .ref h_t_told, .ref h_t_causes, .int t_refused, .int t_place, .int t_cannotBe])), (h_t_tape, .inr (6, [.ref h_t_tape_bytes, .int t_tape_size])), (h_t_tape_bytes, .inl (cI, 60, .inl a_t_tape_bytes))] s.heap.size = A at hD ⊢
  have hA : ∀ q : Nat, s.heap.size ≤ q → A q := fun q h => by rw [← hAe]; exact Or.inr h
  have hS : va_S A s.heap s.heap [] := va_S.rf
  have hl := lv_entry ([.ref h_t, .int p0, .int p1]) (n := 3) (Nat.le_of_ble_eq_true rfl)
  rw [lg_entry_eq]
  generalize (lg_sl ([.ref h_t, .int p0, .int p1]) ++ List.replicate (3 - (lg_sl ([.ref h_t, .int p0, .int p1])).length) Slot.unset).toArray = ls at hl ⊢
  have hl : lv_has ls 3 [(0, .ref h_t), (1, .int p0), (2, .int p1)] := hl
  have hinX4 : ∀ w ∈ wsX40, w ∈ wsX4_signsAhead := hin_of in_X4
  have h := hF
  unfold F_X4_signsAhead at h
  refine lv_iload_n hx hb dX4_signsAhead_0 rfl (lv_at hl 1 rfl) ?_
  refine lv_iconst (v := (3 : Int32)) hx hb dX4_signsAhead_1 (by decide) ?_
  refine lv_icmp_ne (tgt := 16) hx hb dX4_signsAhead_2 (by decide) (fun c1 => ?_) (fun c1 => ?_)
  rotate_left
  · have h := it_p h c1
    refine lv_aload_n hx hb dX4_signsAhead_5 rfl (lv_at hl 0 rfl) ?_
    refine va_get (D := G) (ci := 4) (v := .ref h_t_tape) (C := RX4) (T := TX4) (N := 6) hx hb hts hinX4 hown hK hP 0 rfl rfl 0 (by decide) (hta _ mw_177) (fun _ h9 => h9) rfl dX4_signsAhead_6 ?_
    refine lv_bipush (v := (44 : Int32)) hx hb dX4_signsAhead_9 (by decide) ?_
    refine lv_iload_n hx hb dX4_signsAhead_11 rfl (lv_at hl 2 rfl) ?_
    obtain ⟨x4, hx4, h⟩ := bd_e h
    try dsimp only at h
    refine k_ViU (n := 2) (As := [.int (44 : Int32), .int p1]) (rest := []) hx hb hml hown hts (c_X7_timesAhead l G cI cJ cD cH s.heap.size h_t_tape h_t_tape_bytes t_tape_size a_t_tape_bytes (44 : Int32) p1 x4 hx4) gX4_signsAhead_X7_timesAhead rfl rfl rfl (by decide +kernel) ⟨by first | exact Nat.le_of_ble_eq_true rfl | (simp only [headSpec]; omega), by first | exact Nat.le_of_ble_eq_true rfl | (simp only [headSpec]; omega)⟩ hK hP hD hS hA [1, 2] (by decide) rfl (ci := 6) rfl rfl rfl rfl rfl hl.1 (Nat.le_of_ble_eq_true rfl) dX4_signsAhead_12 ⟨Nat.zero_le _, Nat.zero_le _⟩ (fun hp4 H locs hP hS => ?_)
    have h9 := Option.some.inj h
    have e9 : x4 = r0 := congrArg (fun z9 => z9) h9
    rw [← e9]
    exact k_iret hx hb hr hlocks hP hS rfl dX4_signsAhead_15
  have h := it_n h c1
  refine lv_iload_n hx hb dX4_signsAhead_16 rfl (lv_at hl 1 rfl) ?_
  refine lv_iconst (v := (5 : Int32)) hx hb dX4_signsAhead_17 (by decide) ?_
  refine lv_icmp_ne (tgt := 34) hx hb dX4_signsAhead_18 (by decide) (fun c2 => ?_) (fun c2 => ?_)
  · have h := it_n h c2
    refine lv_iconst (v := (0 : Int32)) hx hb dX4_signsAhead_34 (by decide) ?_
    have h9 := Option.some.inj h
    have e9 : (0 : Int32) = r0 := congrArg (fun z9 => z9) h9
    rw [← e9]
    exact k_iret hx hb hr hlocks hP hS rfl dX4_signsAhead_35
  have h := it_p h c2
  refine lv_aload_n hx hb dX4_signsAhead_21 rfl (lv_at hl 0 rfl) ?_
  refine va_get (D := G) (ci := 4) (v := .ref h_t_tape) (C := RX4) (T := TX4) (N := 6) hx hb hts hinX4 hown hK hP 0 rfl rfl 0 (by decide) (hta _ mw_177) (fun _ h9 => h9) rfl dX4_signsAhead_22 ?_
  refine lv_bipush (v := (59 : Int32)) hx hb dX4_signsAhead_25 (by decide) ?_
  refine lv_iload_n hx hb dX4_signsAhead_27 rfl (lv_at hl 2 rfl) ?_
  obtain ⟨x3, hx3, h⟩ := bd_e h
  try dsimp only at h
  refine k_ViU (n := 2) (As := [.int (59 : Int32), .int p1]) (rest := []) hx hb hml hown hts (c_X7_timesAhead l G cI cJ cD cH s.heap.size h_t_tape h_t_tape_bytes t_tape_size a_t_tape_bytes (59 : Int32) p1 x3 hx3) gX4_signsAhead_X7_timesAhead rfl rfl rfl (by decide +kernel) ⟨by first | exact Nat.le_of_ble_eq_true rfl | (simp only [headSpec]; omega), by first | exact Nat.le_of_ble_eq_true rfl | (simp only [headSpec]; omega)⟩ hK hP hD hS hA [1, 2] (by decide) rfl (ci := 6) rfl rfl rfl rfl rfl hl.1 (Nat.le_of_ble_eq_true rfl) dX4_signsAhead_28 ⟨Nat.zero_le _, Nat.zero_le _⟩ (fun hp3 H locs hP hS => ?_)
  refine lv_goto (tgt := 35) hx hb dX4_signsAhead_31 (by decide) ?_
  have h9 := Option.some.inj h
  have e9 : x3 = r0 := congrArg (fun z9 => z9) h9
  rw [← e9]
  exact k_iret hx hb hr hlocks hP hS rfl dX4_signsAhead_35

/-! X4_keepWhy -/
set_option maxHeartbeats 4000000 in
set_option maxRecDepth 100000 in
theorem c_X4_keepWhy (l : Launch) (G : va_G) (cI cJ cD cH : ClassId) (sz : Nat) (h_t : Nat) (h_t_causes : Nat) (h_t_tape : Nat) (h_t_tape_bytes : Nat) (h_t_told : Nat) (t_refused : Int32) (t_place : Int32) (t_cannotBe : Int32) (a_t_causes : Nat → Int32) (t_tape_size : Int32) (a_t_tape_bytes : Nat → Int32) (p0 : Int32) (p1 : Int32) (w0 : Nat → Int32) (w1 : Int32) (hF : F_X4_keepWhy a_t_causes t_tape_size a_t_tape_bytes p0 p1 = some (w0, w1)) : Met l yX4_keepWhy wsX4_keepWhy ({ frames := 3, cells := 0, slots := 0, locals := 67 }) (k_pre G (k_T cI cJ cD cH) [(h_t, .inr (4, [.ref h_t_tape, .ref h_t_told, .ref h_t_causes, .int t_refused, .int t_place, .int t_cannotBe])), (h_t_causes, .inl (cI, 6, .inl a_t_causes)), (h_t_tape, .inr (6, [.ref h_t_tape_bytes, .int t_tape_size])), (h_t_tape_bytes, .inl (cI, 60, .inl a_t_tape_bytes))] sz [.ref h_t, .int p0, .int p1]) (va_Qv (fun (_ : Unit) => True) (fun _ t => va_P G vwCl [(h_t, .inr (4, [.ref h_t_tape, .ref h_t_told, .ref h_t_causes, .int w1, .int t_place, .int t_cannotBe])), (h_t_causes, .inl (cI, 6, .inl w0)), (h_t_tape, .inr (6, [.ref h_t_tape_bytes, .int t_tape_size])), (h_t_tape_bytes, .inl (cI, 60, .inl a_t_tape_bytes))] t.heap) (va_A [(h_t, .inr (4, [.ref h_t_tape, .ref h_t_told, .ref h_t_causes, .int t_refused, .int t_place, .int t_cannotBe])), (h_t_causes, .inl (cI, 6, .inl a_t_causes)), (h_t_tape, .inr (6, [.ref h_t_tape_bytes, .int t_tape_size])), (h_t_tape_bytes, .inl (cI, 60, .inl a_t_tape_bytes))] sz)) 0 0 (va_A [(h_t, .inr (4, [.ref h_t_tape, .ref h_t_told, .ref h_t_causes, .int t_refused, .int t_place, .int t_cannotBe])), (h_t_causes, .inl (cI, 6, .inl a_t_causes)), (h_t_tape, .inr (6, [.ref h_t_tape_bytes, .int t_tape_size])), (h_t_tape_bytes, .inl (cI, 60, .inl a_t_tape_bytes))] sz) := by
  refine Met.ofW (cc := cX4_keepWhy) (maxL := 3) (ret := none) (by decide) rfl ?_
  intro p e s m args below meth c s₁ B hml hv
  obtain ⟨rfl, hsz, hP, hK, hD0⟩ := hv
  have hx := B.exec
  have hb := B.bytes
  have hr := B.returns
  have hts := atoms_spec (ws := wsX4_keepWhy) B.pre
  have hta : ∀ w ∈ wA, w.before ([.ref h_t, .int p0, .int p1] : List Value).toArray s = true := hta_of hts
  have hown : s.vm.findClass RX4 = some m.cls := findClass_of_methodNamed B.named
  have hlocks := B.notSynchronized
  subst hsz
  have hD := hD0.self (sz := s.heap.size)
  generalize hAe : va_A [(h_t, .inr (4, [.ref h_t_tape, .ref h_t_told, .ref h_t_causes, .int t_refused, .int t_place, .int t_cannotBe])), (h_t_causes, .inl (cI, 6, .inl a_t_causes)), (h_t_tape, .inr (6, [.ref h_t_tape_bytes, .int t_tape_size])), (h_t_tape_bytes, .inl (cI, 60, .inl a_t_tape_bytes))] s.heap.size = A at hD ⊢
  have hA : ∀ q : Nat, s.heap.size ≤ q → A q := fun q h => by rw [← hAe]; exact Or.inr h
  have hS : va_S A s.heap s.heap [] := va_S.rf
  have hl := lv_entry ([.ref h_t, .int p0, .int p1]) (n := 3) (Nat.le_of_ble_eq_true rfl)
  rw [lg_entry_eq]
  generalize (lg_sl ([.ref h_t, .int p0, .int p1]) ++ List.replicate (3 - (lg_sl ([.ref h_t, .int p0, .int p1])).length) Slot.unset).toArray = ls at hl ⊢
  have hl : lv_has ls 3 [(0, .ref h_t), (1, .int p0), (2, .int p1)] := hl
  have hinX4 : ∀ w ∈ wsX40, w ∈ wsX4_keepWhy := hin_of in_X4
  have hinX7 : ∀ w ∈ wsX70, w ∈ wsX4_keepWhy := hin_of in_X7
  have h := hF
  unfold F_X4_keepWhy at h
  refine lv_aload_n hx hb dX4_keepWhy_0 rfl (lv_at hl 0 rfl) ?_
  refine lv_iconst (v := (1 : Int32)) hx hb dX4_keepWhy_1 (by decide) ?_
  refine va_put (D := G) (ci := 4) (v := .int (1 : Int32)) (ty := .boolean) (C := RX4) (T := TX4) (N := 6) hx hb hts hinX4 tyX4 tyX4_ok nmX4 hown hK hP hD hS 0 rfl rfl 3 (by decide) (hta _ mw_280) (fun _ h9 => h9) rfl (by decide +kernel) rfl rfl (Nat.le_of_ble_eq_true rfl) dX4_keepWhy_2 (fun H locs hP hD hS => ?_)
  have hP : va_P G vwCl [(h_t, .inr (4, [.ref h_t_tape, .ref h_t_told, .ref h_t_causes, .int (1 : Int32), .int t_place, .int t_cannotBe])), (h_t_causes, .inl (cI, 6, .inl a_t_causes)), (h_t_tape, .inr (6, [.ref h_t_tape_bytes, .int t_tape_size])), (h_t_tape_bytes, .inl (cI, 60, .inl a_t_tape_bytes))] H := hP
  have hD : va_D A [(h_t, .inr (4, [.ref h_t_tape, .ref h_t_told, .ref h_t_causes, .int (1 : Int32), .int t_place, .int t_cannotBe])), (h_t_causes, .inl (cI, 6, .inl a_t_causes)), (h_t_tape, .inr (6, [.ref h_t_tape_bytes, .int t_tape_size])), (h_t_tape_bytes, .inl (cI, 60, .inl a_t_tape_bytes))] := hD
  refine lv_aload_n hx hb dX4_keepWhy_5 rfl (lv_at hl 0 rfl) ?_
  refine va_get (D := G) (ci := 4) (v := .ref h_t_causes) (C := RX4) (T := TX4) (N := 6) hx hb hts hinX4 hown hK hP 0 rfl rfl 2 (by decide) (hta _ mw_180) (fun _ h9 => h9) rfl dX4_keepWhy_6 ?_
  refine lv_iconst (v := (0 : Int32)) hx hb dX4_keepWhy_9 (by decide) ?_
  refine lv_iconst (v := (1 : Int32)) hx hb dX4_keepWhy_10 (by decide) ?_
  obtain ⟨hn1, h⟩ := ck_e h
  refine va_iast hx hb hK hP hD hS 1 0 rfl rfl hn1 dX4_keepWhy_11 (fun H locs hP hD hS => ?_)
  have hP : va_P G vwCl [(h_t, .inr (4, [.ref h_t_tape, .ref h_t_told, .ref h_t_causes, .int (1 : Int32), .int t_place, .int t_cannotBe])), (h_t_causes, .inl (cI, 6, .inl (upd a_t_causes (0 : Int32).toNatClampNeg (1 : Int32)))), (h_t_tape, .inr (6, [.ref h_t_tape_bytes, .int t_tape_size])), (h_t_tape_bytes, .inl (cI, 60, .inl a_t_tape_bytes))] H := hP
  have hD : va_D A [(h_t, .inr (4, [.ref h_t_tape, .ref h_t_told, .ref h_t_causes, .int (1 : Int32), .int t_place, .int t_cannotBe])), (h_t_causes, .inl (cI, 6, .inl (upd a_t_causes (0 : Int32).toNatClampNeg (1 : Int32)))), (h_t_tape, .inr (6, [.ref h_t_tape_bytes, .int t_tape_size])), (h_t_tape_bytes, .inl (cI, 60, .inl a_t_tape_bytes))] := hD
  refine lv_aload_n hx hb dX4_keepWhy_12 rfl (lv_at hl 0 rfl) ?_
  refine va_get (D := G) (ci := 4) (v := .ref h_t_causes) (C := RX4) (T := TX4) (N := 6) hx hb hts hinX4 hown hK hP 0 rfl rfl 2 (by decide) (hta _ mw_180) (fun _ h9 => h9) rfl dX4_keepWhy_13 ?_
  refine lv_iconst (v := (1 : Int32)) hx hb dX4_keepWhy_16 (by decide) ?_
  refine lv_aload_n hx hb dX4_keepWhy_17 rfl (lv_at hl 0 rfl) ?_
  refine va_get (D := G) (ci := 4) (v := .ref h_t_tape) (C := RX4) (T := TX4) (N := 6) hx hb hts hinX4 hown hK hP 0 rfl rfl 0 (by decide) (hta _ mw_177) (fun _ h9 => h9) rfl dX4_keepWhy_18 ?_
  refine va_get (D := G) (ci := 6) (v := .int t_tape_size) (C := RX7) (T := TX7) (N := 2) hx hb hts hinX7 hown hK hP 2 rfl rfl 1 (by decide) (hta _ mw_198) (fun _ h9 => h9) rfl dX4_keepWhy_21 ?_
  obtain ⟨hn2, h⟩ := ck_e h
  refine va_iast hx hb hK hP hD hS 1 0 rfl rfl hn2 dX4_keepWhy_24 (fun H locs hP hD hS => ?_)
  have hP : va_P G vwCl [(h_t, .inr (4, [.ref h_t_tape, .ref h_t_told, .ref h_t_causes, .int (1 : Int32), .int t_place, .int t_cannotBe])), (h_t_causes, .inl (cI, 6, .inl (upd (upd a_t_causes (0 : Int32).toNatClampNeg (1 : Int32)) (1 : Int32).toNatClampNeg t_tape_size))), (h_t_tape, .inr (6, [.ref h_t_tape_bytes, .int t_tape_size])), (h_t_tape_bytes, .inl (cI, 60, .inl a_t_tape_bytes))] H := hP
  have hD : va_D A [(h_t, .inr (4, [.ref h_t_tape, .ref h_t_told, .ref h_t_causes, .int (1 : Int32), .int t_place, .int t_cannotBe])), (h_t_causes, .inl (cI, 6, .inl (upd (upd a_t_causes (0 : Int32).toNatClampNeg (1 : Int32)) (1 : Int32).toNatClampNeg t_tape_size))), (h_t_tape, .inr (6, [.ref h_t_tape_bytes, .int t_tape_size])), (h_t_tape_bytes, .inl (cI, 60, .inl a_t_tape_bytes))] := hD
  refine lv_aload_n hx hb dX4_keepWhy_25 rfl (lv_at hl 0 rfl) ?_
  refine va_get (D := G) (ci := 4) (v := .ref h_t_causes) (C := RX4) (T := TX4) (N := 6) hx hb hts hinX4 hown hK hP 0 rfl rfl 2 (by decide) (hta _ mw_180) (fun _ h9 => h9) rfl dX4_keepWhy_26 ?_
  refine lv_iconst (v := (2 : Int32)) hx hb dX4_keepWhy_29 (by decide) ?_
  refine lv_aload_n hx hb dX4_keepWhy_30 rfl (lv_at hl 0 rfl) ?_
  refine lv_iload_n hx hb dX4_keepWhy_31 rfl (lv_at hl 2 rfl) ?_
  obtain ⟨x3, hx3, h⟩ := bd_e h
  try dsimp only at h
  refine k_ViU (n := 1) (As := [.int p1]) (rest := [.int (2 : Int32), .ref h_t_causes]) hx hb hml hown hts (c_X4_sortOf l G cI cJ cD cH H.size h_t h_t_tape h_t_tape_bytes h_t_told h_t_causes (1 : Int32) t_place t_cannotBe t_tape_size a_t_tape_bytes p1 x3 hx3) gX4_keepWhy_X4_sortOf rfl rfl rfl (by decide +kernel) ⟨by first | exact Nat.le_of_ble_eq_true rfl | (simp only [headSpec]; omega), by first | exact Nat.le_of_ble_eq_true rfl | (simp only [headSpec]; omega)⟩ hK hP hD hS hA [0, 2, 3] (by decide) rfl (ci := 4) rfl rfl rfl rfl rfl hl.1 (Nat.le_of_ble_eq_true rfl) dX4_keepWhy_32 ⟨Nat.zero_le _, Nat.zero_le _⟩ (fun hp3 H locs hP hS => ?_)
  obtain ⟨hn4, h⟩ := ck_e h
  refine va_iast hx hb hK hP hD hS 1 0 rfl rfl hn4 dX4_keepWhy_35 (fun H locs hP hD hS => ?_)
  have hP : va_P G vwCl [(h_t, .inr (4, [.ref h_t_tape, .ref h_t_told, .ref h_t_causes, .int (1 : Int32), .int t_place, .int t_cannotBe])), (h_t_causes, .inl (cI, 6, .inl (upd (upd (upd a_t_causes (0 : Int32).toNatClampNeg (1 : Int32)) (1 : Int32).toNatClampNeg t_tape_size) (2 : Int32).toNatClampNeg x3))), (h_t_tape, .inr (6, [.ref h_t_tape_bytes, .int t_tape_size])), (h_t_tape_bytes, .inl (cI, 60, .inl a_t_tape_bytes))] H := hP
  have hD : va_D A [(h_t, .inr (4, [.ref h_t_tape, .ref h_t_told, .ref h_t_causes, .int (1 : Int32), .int t_place, .int t_cannotBe])), (h_t_causes, .inl (cI, 6, .inl (upd (upd (upd a_t_causes (0 : Int32).toNatClampNeg (1 : Int32)) (1 : Int32).toNatClampNeg t_tape_size) (2 : Int32).toNatClampNeg x3))), (h_t_tape, .inr (6, [.ref h_t_tape_bytes, .int t_tape_size])), (h_t_tape_bytes, .inl (cI, 60, .inl a_t_tape_bytes))] := hD
  refine lv_aload_n hx hb dX4_keepWhy_36 rfl (lv_at hl 0 rfl) ?_
  refine va_get (D := G) (ci := 4) (v := .ref h_t_causes) (C := RX4) (T := TX4) (N := 6) hx hb hts hinX4 hown hK hP 0 rfl rfl 2 (by decide) (hta _ mw_180) (fun _ h9 => h9) rfl dX4_keepWhy_37 ?_
  refine lv_iconst (v := (3 : Int32)) hx hb dX4_keepWhy_40 (by decide) ?_
  refine lv_aload_n hx hb dX4_keepWhy_41 rfl (lv_at hl 0 rfl) ?_
  refine lv_aload_n hx hb dX4_keepWhy_42 rfl (lv_at hl 0 rfl) ?_
  refine va_get (D := G) (ci := 4) (v := .ref h_t_causes) (C := RX4) (T := TX4) (N := 6) hx hb hts hinX4 hown hK hP 0 rfl rfl 2 (by decide) (hta _ mw_180) (fun _ h9 => h9) rfl dX4_keepWhy_43 ?_
  refine lv_iconst (v := (2 : Int32)) hx hb dX4_keepWhy_46 (by decide) ?_
  obtain ⟨hn5, h⟩ := ck_e h
  refine va_iald hx hb hK hP 1 0 rfl rfl hn5 dX4_keepWhy_47 ?_
  refine lv_iload_n hx hb dX4_keepWhy_48 rfl (lv_at hl 2 rfl) ?_
  obtain ⟨x6, hx6, h⟩ := bd_e h
  try dsimp only at h
  refine k_ViU (n := 2) (As := [.int ((upd (upd (upd a_t_causes (0 : Int32).toNatClampNeg (1 : Int32)) (1 : Int32).toNatClampNeg t_tape_size) (2 : Int32).toNatClampNeg x3) (2 : Int32).toNatClampNeg), .int p1]) (rest := [.int (3 : Int32), .ref h_t_causes]) hx hb hml hown hts (c_X4_signsAhead l G cI cJ cD cH H.size h_t h_t_tape h_t_tape_bytes h_t_told h_t_causes (1 : Int32) t_place t_cannotBe t_tape_size a_t_tape_bytes ((upd (upd (upd a_t_causes (0 : Int32).toNatClampNeg (1 : Int32)) (1 : Int32).toNatClampNeg t_tape_size) (2 : Int32).toNatClampNeg x3) (2 : Int32).toNatClampNeg) p1 x6 hx6) gX4_keepWhy_X4_signsAhead rfl rfl rfl (by decide +kernel) ⟨by first | exact Nat.le_of_ble_eq_true rfl | (simp only [headSpec]; omega), by first | exact Nat.le_of_ble_eq_true rfl | (simp only [headSpec]; omega)⟩ hK hP hD hS hA [0, 2, 3] (by decide) rfl (ci := 4) rfl rfl rfl rfl rfl hl.1 (Nat.le_of_ble_eq_true rfl) dX4_keepWhy_49 ⟨Nat.zero_le _, Nat.zero_le _⟩ (fun hp6 H locs hP hS => ?_)
  obtain ⟨hn7, h⟩ := ck_e h
  refine va_iast hx hb hK hP hD hS 1 0 rfl rfl hn7 dX4_keepWhy_52 (fun H locs hP hD hS => ?_)
  have hP : va_P G vwCl [(h_t, .inr (4, [.ref h_t_tape, .ref h_t_told, .ref h_t_causes, .int (1 : Int32), .int t_place, .int t_cannotBe])), (h_t_causes, .inl (cI, 6, .inl (upd (upd (upd (upd a_t_causes (0 : Int32).toNatClampNeg (1 : Int32)) (1 : Int32).toNatClampNeg t_tape_size) (2 : Int32).toNatClampNeg x3) (3 : Int32).toNatClampNeg x6))), (h_t_tape, .inr (6, [.ref h_t_tape_bytes, .int t_tape_size])), (h_t_tape_bytes, .inl (cI, 60, .inl a_t_tape_bytes))] H := hP
  have hD : va_D A [(h_t, .inr (4, [.ref h_t_tape, .ref h_t_told, .ref h_t_causes, .int (1 : Int32), .int t_place, .int t_cannotBe])), (h_t_causes, .inl (cI, 6, .inl (upd (upd (upd (upd a_t_causes (0 : Int32).toNatClampNeg (1 : Int32)) (1 : Int32).toNatClampNeg t_tape_size) (2 : Int32).toNatClampNeg x3) (3 : Int32).toNatClampNeg x6))), (h_t_tape, .inr (6, [.ref h_t_tape_bytes, .int t_tape_size])), (h_t_tape_bytes, .inl (cI, 60, .inl a_t_tape_bytes))] := hD
  refine lv_aload_n hx hb dX4_keepWhy_53 rfl (lv_at hl 0 rfl) ?_
  refine va_get (D := G) (ci := 4) (v := .ref h_t_causes) (C := RX4) (T := TX4) (N := 6) hx hb hts hinX4 hown hK hP 0 rfl rfl 2 (by decide) (hta _ mw_180) (fun _ h9 => h9) rfl dX4_keepWhy_54 ?_
  refine lv_iconst (v := (4 : Int32)) hx hb dX4_keepWhy_57 (by decide) ?_
  refine lv_iload_n hx hb dX4_keepWhy_58 rfl (lv_at hl 1 rfl) ?_
  obtain ⟨hn8, h⟩ := ck_e h
  refine va_iast hx hb hK hP hD hS 1 0 rfl rfl hn8 dX4_keepWhy_59 (fun H locs hP hD hS => ?_)
  have hP : va_P G vwCl [(h_t, .inr (4, [.ref h_t_tape, .ref h_t_told, .ref h_t_causes, .int (1 : Int32), .int t_place, .int t_cannotBe])), (h_t_causes, .inl (cI, 6, .inl (upd (upd (upd (upd (upd a_t_causes (0 : Int32).toNatClampNeg (1 : Int32)) (1 : Int32).toNatClampNeg t_tape_size) (2 : Int32).toNatClampNeg x3) (3 : Int32).toNatClampNeg x6) (4 : Int32).toNatClampNeg p0))), (h_t_tape, .inr (6, [.ref h_t_tape_bytes, .int t_tape_size])), (h_t_tape_bytes, .inl (cI, 60, .inl a_t_tape_bytes))] H := hP
  have hD : va_D A [(h_t, .inr (4, [.ref h_t_tape, .ref h_t_told, .ref h_t_causes, .int (1 : Int32), .int t_place, .int t_cannotBe])), (h_t_causes, .inl (cI, 6, .inl (upd (upd (upd (upd (upd a_t_causes (0 : Int32).toNatClampNeg (1 : Int32)) (1 : Int32).toNatClampNeg t_tape_size) (2 : Int32).toNatClampNeg x3) (3 : Int32).toNatClampNeg x6) (4 : Int32).toNatClampNeg p0))), (h_t_tape, .inr (6, [.ref h_t_tape_bytes, .int t_tape_size])), (h_t_tape_bytes, .inl (cI, 60, .inl a_t_tape_bytes))] := hD
  refine lv_aload_n hx hb dX4_keepWhy_60 rfl (lv_at hl 0 rfl) ?_
  refine va_get (D := G) (ci := 4) (v := .ref h_t_causes) (C := RX4) (T := TX4) (N := 6) hx hb hts hinX4 hown hK hP 0 rfl rfl 2 (by decide) (hta _ mw_180) (fun _ h9 => h9) rfl dX4_keepWhy_61 ?_
  refine lv_iconst (v := (5 : Int32)) hx hb dX4_keepWhy_64 (by decide) ?_
  refine lv_iload_n hx hb dX4_keepWhy_65 rfl (lv_at hl 2 rfl) ?_
  obtain ⟨hn9, h⟩ := ck_e h
  refine va_iast hx hb hK hP hD hS 1 0 rfl rfl hn9 dX4_keepWhy_66 (fun H locs hP hD hS => ?_)
  have hP : va_P G vwCl [(h_t, .inr (4, [.ref h_t_tape, .ref h_t_told, .ref h_t_causes, .int (1 : Int32), .int t_place, .int t_cannotBe])), (h_t_causes, .inl (cI, 6, .inl (upd (upd (upd (upd (upd (upd a_t_causes (0 : Int32).toNatClampNeg (1 : Int32)) (1 : Int32).toNatClampNeg t_tape_size) (2 : Int32).toNatClampNeg x3) (3 : Int32).toNatClampNeg x6) (4 : Int32).toNatClampNeg p0) (5 : Int32).toNatClampNeg p1))), (h_t_tape, .inr (6, [.ref h_t_tape_bytes, .int t_tape_size])), (h_t_tape_bytes, .inl (cI, 60, .inl a_t_tape_bytes))] H := hP
  have hD : va_D A [(h_t, .inr (4, [.ref h_t_tape, .ref h_t_told, .ref h_t_causes, .int (1 : Int32), .int t_place, .int t_cannotBe])), (h_t_causes, .inl (cI, 6, .inl (upd (upd (upd (upd (upd (upd a_t_causes (0 : Int32).toNatClampNeg (1 : Int32)) (1 : Int32).toNatClampNeg t_tape_size) (2 : Int32).toNatClampNeg x3) (3 : Int32).toNatClampNeg x6) (4 : Int32).toNatClampNeg p0) (5 : Int32).toNatClampNeg p1))), (h_t_tape, .inr (6, [.ref h_t_tape_bytes, .int t_tape_size])), (h_t_tape_bytes, .inl (cI, 60, .inl a_t_tape_bytes))] := hD
  have h9 := Option.some.inj h
  have e9 : (upd (upd (upd (upd (upd (upd a_t_causes (0 : Int32).toNatClampNeg (1 : Int32)) (1 : Int32).toNatClampNeg t_tape_size) (2 : Int32).toNatClampNeg x3) (3 : Int32).toNatClampNeg x6) (4 : Int32).toNatClampNeg p0) (5 : Int32).toNatClampNeg p1) = w0 := congrArg (fun z9 => z9.1) h9
  rw [← e9]
  have e9 : (1 : Int32) = w1 := congrArg (fun z9 => z9.2) h9
  rw [← e9]
  exact k_vret hx hb hr hlocks hP hS dX4_keepWhy_67

/-! X4_readOver -/
set_option maxHeartbeats 4000000 in
set_option maxRecDepth 100000 in
theorem c_X4_readOver (l : Launch) (G : va_G) (cI cJ cD cH : ClassId) (sz : Nat) (h_t : Nat) (h_p0 : Nat) (h_t_told : Nat) (h_t_told_powers : Nat) (h_p0_powers : Nat) (h_t_tape : Nat) (h_t_tape_bytes : Nat) (h_t_causes : Nat) (t_refused : Int32) (t_place : Int32) (t_cannotBe : Int32) (p0_genus : Int32) (p0_size : Int32) (p0_limit : Int32) (p0_tree : Int64) (t_told_genus : Int32) (t_told_size : Int32) (t_told_limit : Int32) (t_told_tree : Int64) (a_t_told_powers : Nat → Int32) (a_p0_powers : Nat → Int32) (t_tape_size : Int32) (a_t_tape_bytes : Nat → Int32) (a_t_causes : Nat → Int32) (r0 : Int32) (w0 : Nat → Int32) (w1 : Nat → Int32) (w2 : Nat → Int32) (w3 : Int32) (w4 : Int32) (w5 : Int32) (w6 : Int32) (w7 : Int32) (w8 : Int32) (w9 : Int64) (w10 : Int32) (w11 : Int32) (w12 : Int32) (w13 : Int64) (hF : F_X4_readOver t_refused p0_genus p0_size p0_limit p0_tree a_t_told_powers a_p0_powers t_tape_size a_t_tape_bytes a_t_causes = some (r0, w0, w1, w2, w3, w4, w5, w6, w7, w8, w9, w10, w11, w12, w13)) : Met l yX4_readOver wsX4_readOver ({ frames := 6, cells := 0, slots := 0, locals := 136 }) (k_pre G (k_T cI cJ cD cH) [(h_t, .inr (4, [.ref h_t_tape, .ref h_t_told, .ref h_t_causes, .int t_refused, .int t_place, .int t_cannotBe])), (h_p0, .inr (1, [.int p0_genus, .int p0_size, .ref h_p0_powers, .int p0_limit, .long p0_tree])), (h_t_told, .inr (1, [.int t_told_genus, .int t_told_size, .ref h_t_told_powers, .int t_told_limit, .long t_told_tree])), (h_t_told_powers, .inl (cI, 8, .inl a_t_told_powers)), (h_p0_powers, .inl (cI, 8, .inl a_p0_powers)), (h_t_tape, .inr (6, [.ref h_t_tape_bytes, .int t_tape_size])), (h_t_tape_bytes, .inl (cI, 60, .inl a_t_tape_bytes)), (h_t_causes, .inl (cI, 6, .inl a_t_causes))] sz [.ref h_t, .ref h_p0]) (va_Qi (fun r (_ : Unit) => r = r0 ∧ True) (fun _ t => va_P G vwCl [(h_t, .inr (4, [.ref h_t_tape, .ref h_t_told, .ref h_t_causes, .int w3, .int w4, .int w5])), (h_p0, .inr (1, [.int w6, .int w7, .ref h_p0_powers, .int w8, .long w9])), (h_t_told, .inr (1, [.int w10, .int w11, .ref h_t_told_powers, .int w12, .long w13])), (h_t_told_powers, .inl (cI, 8, .inl w0)), (h_p0_powers, .inl (cI, 8, .inl w1)), (h_t_tape, .inr (6, [.ref h_t_tape_bytes, .int t_tape_size])), (h_t_tape_bytes, .inl (cI, 60, .inl a_t_tape_bytes)), (h_t_causes, .inl (cI, 6, .inl w2))] t.heap) (va_A [(h_t, .inr (4, [.ref h_t_tape, .ref h_t_told, .ref h_t_causes, .int t_refused, .int t_place, .int t_cannotBe])), (h_p0, .inr (1, [.int p0_genus, .int p0_size, .ref h_p0_powers, .int p0_limit, .long p0_tree])), (h_t_told, .inr (1, [.int t_told_genus, .int t_told_size, .ref h_t_told_powers, .int t_told_limit, .long t_told_tree])), (h_t_told_powers, .inl (cI, 8, .inl a_t_told_powers)), (h_p0_powers, .inl (cI, 8, .inl a_p0_powers)), (h_t_tape, .inr (6, [.ref h_t_tape_bytes, .int t_tape_size])), (h_t_tape_bytes, .inl (cI, 60, .inl a_t_tape_bytes)), (h_t_causes, .inl (cI, 6, .inl a_t_causes))] sz)) 0 0 (va_A [(h_t, .inr (4, [.ref h_t_tape, .ref h_t_told, .ref h_t_causes, .int t_refused, .int t_place, .int t_cannotBe])), (h_p0, .inr (1, [.int p0_genus, .int p0_size, .ref h_p0_powers, .int p0_limit, .long p0_tree])), (h_t_told, .inr (1, [.int t_told_genus, .int t_told_size, .ref h_t_told_powers, .int t_told_limit, .long t_told_tree])), (h_t_told_powers, .inl (cI, 8, .inl a_t_told_powers)), (h_p0_powers, .inl (cI, 8, .inl a_p0_powers)), (h_t_tape, .inr (6, [.ref h_t_tape_bytes, .int t_tape_size])), (h_t_tape_bytes, .inl (cI, 60, .inl a_t_tape_bytes)), (h_t_causes, .inl (cI, 6, .inl a_t_causes))] sz) := by
  refine Met.ofW (cc := cX4_readOver) (maxL := 2) (ret := (some .int)) (by decide) rfl ?_
  intro p e s m args below meth c s₁ B hml hv
  obtain ⟨rfl, hsz, hP, hK, hD0⟩ := hv
  have hx := B.exec
  have hb := B.bytes
  have hr := B.returns
  have hts := atoms_spec (ws := wsX4_readOver) B.pre
  have hta : ∀ w ∈ wA, w.before ([.ref h_t, .ref h_p0] : List Value).toArray s = true := hta_of hts
  have hown : s.vm.findClass RX4 = some m.cls := findClass_of_methodNamed B.named
  have hlocks := B.notSynchronized
  subst hsz
  have hD := hD0.self (sz := s.heap.size)
  generalize hAe : va_A [(h_t, .inr (4, [.ref h_t_tape, .ref h_t_told, .ref h_t_causes, .int t_refused, .int t_place, .int t_cannotBe])), (h_p0, .inr (1, [.int p0_genus, .int p0_size, .ref h_p0_powers, .int p0_limit, .long p0_tree])), (h_t_told, .inr (1, [.int t_told_genus, .int t_told_size, .ref h_t_told_powers, .int t_told_limit, .long t_told_tree])), (h_t_told_powers, .inl (cI, 8, .inl a_t_told_powers)), (h_p0_powers, .inl (cI, 8, .inl a_p0_powers)), (h_t_tape, .inr (6, [.ref h_t_tape_bytes, .int t_tape_size])), (h_t_tape_bytes, .inl (cI, 60, .inl a_t_tape_bytes)), (h_t_causes, .inl (cI, 6, .inl a_t_causes))] s.heap.size = A at hD ⊢
  have hA : ∀ q : Nat, s.heap.size ≤ q → A q := fun q h => by rw [← hAe]; exact Or.inr h
  have hS : va_S A s.heap s.heap [] := va_S.rf
  have hl := lv_entry ([.ref h_t, .ref h_p0]) (n := 2) (Nat.le_of_ble_eq_true rfl)
  rw [lg_entry_eq]
  generalize (lg_sl ([.ref h_t, .ref h_p0]) ++ List.replicate (2 - (lg_sl ([.ref h_t, .ref h_p0])).length) Slot.unset).toArray = ls at hl ⊢
  have hl : lv_has ls 2 [(0, .ref h_t), (1, .ref h_p0)] := hl
  have hinX1 : ∀ w ∈ wsX10, w ∈ wsX4_readOver := hin_of in_X1
  have hinX4 : ∀ w ∈ wsX40, w ∈ wsX4_readOver := hin_of in_X4
  have h := hF
  unfold F_X4_readOver at h
  refine lv_aload_n hx hb dX4_readOver_0 rfl (lv_at hl 0 rfl) ?_
  refine va_get (D := G) (ci := 4) (v := .ref h_t_told) (C := RX4) (T := TX4) (N := 6) hx hb hts hinX4 hown hK hP 0 rfl rfl 1 (by decide) (hta _ mw_179) (fun _ h9 => h9) rfl dX4_readOver_1 ?_
  refine lv_aload_n hx hb dX4_readOver_4 rfl (lv_at hl 1 rfl) ?_
  obtain ⟨x1, hx1, h⟩ := bd_e h
  try dsimp only at h
  refine k_VvM (n := 1) (As := [.ref h_p0]) (rest := []) hx hb hml hown hts (c_X1_copyFrom l G cI cJ cD cH s.heap.size h_t_told h_p0 h_t_told_powers h_p0_powers t_told_genus t_told_size t_told_limit t_told_tree p0_genus p0_size p0_limit p0_tree a_t_told_powers a_p0_powers (x1.1) (x1.2.1) (x1.2.2.1) (x1.2.2.2.1) (x1.2.2.2.2) hx1) gX4_readOver_X1_copyFrom rfl rfl rfl (by decide +kernel) ⟨by first | exact Nat.le_of_ble_eq_true rfl | (simp only [headSpec]; omega), by first | exact Nat.le_of_ble_eq_true rfl | (simp only [headSpec]; omega)⟩ hK hP hD hS hA [2, 1, 3, 4] (by decide) rfl rfl (ci := 1) rfl rfl rfl rfl rfl hl.1 (Nat.le_of_ble_eq_true rfl) dX4_readOver_5 ⟨Nat.zero_le _, Nat.zero_le _⟩ [(h_t, .inr (4, [.ref h_t_tape, .ref h_t_told, .ref h_t_causes, .int t_refused, .int t_place, .int t_cannotBe])), (h_p0, .inr (1, [.int p0_genus, .int p0_size, .ref h_p0_powers, .int p0_limit, .long p0_tree])), (h_t_told, .inr (1, [.int (x1.2.1), .int (x1.2.2.1), .ref h_t_told_powers, .int (x1.2.2.2.1), .long (x1.2.2.2.2)])), (h_t_told_powers, .inl (cI, 8, .inl (x1.1))), (h_p0_powers, .inl (cI, 8, .inl a_p0_powers)), (h_t_tape, .inr (6, [.ref h_t_tape_bytes, .int t_tape_size])), (h_t_tape_bytes, .inl (cI, 60, .inl a_t_tape_bytes)), (h_t_causes, .inl (cI, 6, .inl a_t_causes))] [0, 2, 1, 3, 4, 0, 0, 0] 4 (by decide +kernel) rfl rfl rfl (fun hp1 H locs hP hD hS => ?_)
  refine lv_aload_n hx hb dX4_readOver_8 rfl (lv_at hl 0 rfl) ?_
  refine lv_iconst (v := (0 : Int32)) hx hb dX4_readOver_9 (by decide) ?_
  refine va_put (D := G) (ci := 4) (v := .int (0 : Int32)) (ty := .int) (C := RX4) (T := TX4) (N := 6) hx hb hts hinX4 tyX4 tyX4_ok nmX4 hown hK hP hD hS 0 rfl rfl 4 (by decide) (hta _ mw_189) (fun _ h9 => h9) rfl (by decide +kernel) rfl rfl (Nat.le_of_ble_eq_true rfl) dX4_readOver_10 (fun H locs hP hD hS => ?_)
  have hP : va_P G vwCl [(h_t, .inr (4, [.ref h_t_tape, .ref h_t_told, .ref h_t_causes, .int t_refused, .int (0 : Int32), .int t_cannotBe])), (h_p0, .inr (1, [.int p0_genus, .int p0_size, .ref h_p0_powers, .int p0_limit, .long p0_tree])), (h_t_told, .inr (1, [.int (x1.2.1), .int (x1.2.2.1), .ref h_t_told_powers, .int (x1.2.2.2.1), .long (x1.2.2.2.2)])), (h_t_told_powers, .inl (cI, 8, .inl (x1.1))), (h_p0_powers, .inl (cI, 8, .inl a_p0_powers)), (h_t_tape, .inr (6, [.ref h_t_tape_bytes, .int t_tape_size])), (h_t_tape_bytes, .inl (cI, 60, .inl a_t_tape_bytes)), (h_t_causes, .inl (cI, 6, .inl a_t_causes))] H := hP
  have hD : va_D A [(h_t, .inr (4, [.ref h_t_tape, .ref h_t_told, .ref h_t_causes, .int t_refused, .int (0 : Int32), .int t_cannotBe])), (h_p0, .inr (1, [.int p0_genus, .int p0_size, .ref h_p0_powers, .int p0_limit, .long p0_tree])), (h_t_told, .inr (1, [.int (x1.2.1), .int (x1.2.2.1), .ref h_t_told_powers, .int (x1.2.2.2.1), .long (x1.2.2.2.2)])), (h_t_told_powers, .inl (cI, 8, .inl (x1.1))), (h_p0_powers, .inl (cI, 8, .inl a_p0_powers)), (h_t_tape, .inr (6, [.ref h_t_tape_bytes, .int t_tape_size])), (h_t_tape_bytes, .inl (cI, 60, .inl a_t_tape_bytes)), (h_t_causes, .inl (cI, 6, .inl a_t_causes))] := hD
  refine lv_aload_n hx hb dX4_readOver_13 rfl (lv_at hl 0 rfl) ?_
  refine lv_iconst (v := (-1 : Int32)) hx hb dX4_readOver_14 (by decide) ?_
  refine va_put (D := G) (ci := 4) (v := .int (-1 : Int32)) (ty := .int) (C := RX4) (T := TX4) (N := 6) hx hb hts hinX4 tyX4 tyX4_ok nmX4 hown hK hP hD hS 0 rfl rfl 5 (by decide) (hta _ mw_190) (fun _ h9 => h9) rfl (by decide +kernel) rfl rfl (Nat.le_of_ble_eq_true rfl) dX4_readOver_15 (fun H locs hP hD hS => ?_)
  have hP : va_P G vwCl [(h_t, .inr (4, [.ref h_t_tape, .ref h_t_told, .ref h_t_causes, .int t_refused, .int (0 : Int32), .int (-1 : Int32)])), (h_p0, .inr (1, [.int p0_genus, .int p0_size, .ref h_p0_powers, .int p0_limit, .long p0_tree])), (h_t_told, .inr (1, [.int (x1.2.1), .int (x1.2.2.1), .ref h_t_told_powers, .int (x1.2.2.2.1), .long (x1.2.2.2.2)])), (h_t_told_powers, .inl (cI, 8, .inl (x1.1))), (h_p0_powers, .inl (cI, 8, .inl a_p0_powers)), (h_t_tape, .inr (6, [.ref h_t_tape_bytes, .int t_tape_size])), (h_t_tape_bytes, .inl (cI, 60, .inl a_t_tape_bytes)), (h_t_causes, .inl (cI, 6, .inl a_t_causes))] H := hP
  have hD : va_D A [(h_t, .inr (4, [.ref h_t_tape, .ref h_t_told, .ref h_t_causes, .int t_refused, .int (0 : Int32), .int (-1 : Int32)])), (h_p0, .inr (1, [.int p0_genus, .int p0_size, .ref h_p0_powers, .int p0_limit, .long p0_tree])), (h_t_told, .inr (1, [.int (x1.2.1), .int (x1.2.2.1), .ref h_t_told_powers, .int (x1.2.2.2.1), .long (x1.2.2.2.2)])), (h_t_told_powers, .inl (cI, 8, .inl (x1.1))), (h_p0_powers, .inl (cI, 8, .inl a_p0_powers)), (h_t_tape, .inr (6, [.ref h_t_tape_bytes, .int t_tape_size])), (h_t_tape_bytes, .inl (cI, 60, .inl a_t_tape_bytes)), (h_t_causes, .inl (cI, 6, .inl a_t_causes))] := hD
  refine lv_aload_n hx hb dX4_readOver_18 rfl (lv_at hl 0 rfl) ?_
  obtain ⟨x2, hx2, h⟩ := bd_e h
  try dsimp only at h
  refine k_ViM (n := 0) (As := []) (rest := []) hx hb hml hown hts (c_X4_readText l G cI cJ cD cH H.size h_t h_t_tape h_t_tape_bytes h_t_told h_t_told_powers h_t_causes t_refused (0 : Int32) (-1 : Int32) t_tape_size a_t_tape_bytes (x1.2.1) (x1.2.2.1) (x1.2.2.2.1) (x1.2.2.2.2) (x1.1) (x2.1) (x2.2.1) (x2.2.2.1) (x2.2.2.2.1) (x2.2.2.2.2.1) (x2.2.2.2.2.2.1) (x2.2.2.2.2.2.2.1) (x2.2.2.2.2.2.2.2) hx2) gX4_readOver_X4_readText rfl rfl rfl (by decide +kernel) ⟨by first | exact Nat.le_of_ble_eq_true rfl | (simp only [headSpec]; omega), by first | exact Nat.le_of_ble_eq_true rfl | (simp only [headSpec]; omega)⟩ hK hP hD hS hA [0, 5, 6, 2, 3] (by decide) rfl rfl (ci := 4) rfl rfl rfl rfl rfl hl.1 (Nat.le_of_ble_eq_true rfl) dX4_readOver_19 ⟨Nat.zero_le _, Nat.zero_le _⟩ [(h_t, .inr (4, [.ref h_t_tape, .ref h_t_told, .ref h_t_causes, .int t_refused, .int (x2.2.2.1), .int (x2.2.2.2.1)])), (h_p0, .inr (1, [.int p0_genus, .int p0_size, .ref h_p0_powers, .int p0_limit, .long p0_tree])), (h_t_told, .inr (1, [.int (x2.2.2.2.2.1), .int (x2.2.2.2.2.2.1), .ref h_t_told_powers, .int (x2.2.2.2.2.2.2.1), .long (x2.2.2.2.2.2.2.2)])), (h_t_told_powers, .inl (cI, 8, .inl (x2.2.1))), (h_p0_powers, .inl (cI, 8, .inl a_p0_powers)), (h_t_tape, .inr (6, [.ref h_t_tape_bytes, .int t_tape_size])), (h_t_tape_bytes, .inl (cI, 60, .inl a_t_tape_bytes)), (h_t_causes, .inl (cI, 6, .inl a_t_causes))] [1, 0, 4, 5, 0, 2, 3, 0] 5 (by decide +kernel) rfl rfl rfl (fun hp2 H locs hP hD hS => ?_)
  refine lv_if_ne (tgt := 44) hx hb dX4_readOver_22 (by decide) (fun c3 => ?_) (fun c3 => ?_)
  rotate_left
  · have h := it_p h c3
    refine lv_aload_n hx hb dX4_readOver_25 rfl (lv_at hl 0 rfl) ?_
    refine lv_bipush (v := (6 : Int32)) hx hb dX4_readOver_26 (by decide) ?_
    refine lv_aload_n hx hb dX4_readOver_28 rfl (lv_at hl 0 rfl) ?_
    refine va_get (D := G) (ci := 4) (v := .int (x2.2.2.1)) (C := RX4) (T := TX4) (N := 6) hx hb hts hinX4 hown hK hP 0 rfl rfl 4 (by decide) (hta _ mw_189) (fun _ h9 => h9) rfl dX4_readOver_29 ?_
    obtain ⟨x7, hx7, h⟩ := bd_e h
    try dsimp only at h
    refine k_VvM (n := 2) (As := [.int (6 : Int32), .int (x2.2.2.1)]) (rest := []) hx hb hml hown hts (c_X4_keepWhy l G cI cJ cD cH H.size h_t h_t_causes h_t_tape h_t_tape_bytes h_t_told t_refused (x2.2.2.1) (x2.2.2.2.1) a_t_causes t_tape_size a_t_tape_bytes (6 : Int32) (x2.2.2.1) (x7.1) (x7.2) hx7) gX4_readOver_X4_keepWhy rfl rfl rfl (by decide +kernel) ⟨by first | exact Nat.le_of_ble_eq_true rfl | (simp only [headSpec]; omega), by first | exact Nat.le_of_ble_eq_true rfl | (simp only [headSpec]; omega)⟩ hK hP hD hS hA [0, 7, 5, 6] (by decide) rfl rfl (ci := 4) rfl rfl rfl rfl rfl hl.1 (Nat.le_of_ble_eq_true rfl) dX4_readOver_32 ⟨Nat.zero_le _, Nat.zero_le _⟩ [(h_t, .inr (4, [.ref h_t_tape, .ref h_t_told, .ref h_t_causes, .int (x7.2), .int (x2.2.2.1), .int (x2.2.2.2.1)])), (h_p0, .inr (1, [.int p0_genus, .int p0_size, .ref h_p0_powers, .int p0_limit, .long p0_tree])), (h_t_told, .inr (1, [.int (x2.2.2.2.2.1), .int (x2.2.2.2.2.2.1), .ref h_t_told_powers, .int (x2.2.2.2.2.2.2.1), .long (x2.2.2.2.2.2.2.2)])), (h_t_told_powers, .inl (cI, 8, .inl (x2.2.1))), (h_p0_powers, .inl (cI, 8, .inl a_p0_powers)), (h_t_tape, .inr (6, [.ref h_t_tape_bytes, .int t_tape_size])), (h_t_tape_bytes, .inl (cI, 60, .inl a_t_tape_bytes)), (h_t_causes, .inl (cI, 6, .inl (x7.1)))] [1, 0, 0, 0, 0, 3, 4, 2] 4 (by decide +kernel) rfl rfl rfl (fun hp7 H locs hP hD hS => ?_)
    refine lv_sipush (v := (-1000 : Int32)) hx hb dX4_readOver_35 (by decide) ?_
    refine lv_aload_n hx hb dX4_readOver_38 rfl (lv_at hl 0 rfl) ?_
    refine va_get (D := G) (ci := 4) (v := .int (x2.2.2.1)) (C := RX4) (T := TX4) (N := 6) hx hb hts hinX4 hown hK hP 0 rfl rfl 4 (by decide) (hta _ mw_189) (fun _ h9 => h9) rfl dX4_readOver_39 ?_
    refine lv_isub hx hb dX4_readOver_42 ?_
    have h9 := Option.some.inj h
    have e9 : ((-1000 : Int32) - (x2.2.2.1)) = r0 := congrArg (fun z9 => z9.1) h9
    rw [← e9]
    have e9 : (x2.2.1) = w0 := congrArg (fun z9 => z9.2.1) h9
    rw [← e9]
    have e9 : a_p0_powers = w1 := congrArg (fun z9 => z9.2.2.1) h9
    rw [← e9]
    have e9 : (x7.1) = w2 := congrArg (fun z9 => z9.2.2.2.1) h9
    rw [← e9]
    have e9 : (x7.2) = w3 := congrArg (fun z9 => z9.2.2.2.2.1) h9
    rw [← e9]
    have e9 : (x2.2.2.1) = w4 := congrArg (fun z9 => z9.2.2.2.2.2.1) h9
    rw [← e9]
    have e9 : (x2.2.2.2.1) = w5 := congrArg (fun z9 => z9.2.2.2.2.2.2.1) h9
    rw [← e9]
    have e9 : p0_genus = w6 := congrArg (fun z9 => z9.2.2.2.2.2.2.2.1) h9
    rw [← e9]
    have e9 : p0_size = w7 := congrArg (fun z9 => z9.2.2.2.2.2.2.2.2.1) h9
    rw [← e9]
    have e9 : p0_limit = w8 := congrArg (fun z9 => z9.2.2.2.2.2.2.2.2.2.1) h9
    rw [← e9]
    have e9 : p0_tree = w9 := congrArg (fun z9 => z9.2.2.2.2.2.2.2.2.2.2.1) h9
    rw [← e9]
    have e9 : (x2.2.2.2.2.1) = w10 := congrArg (fun z9 => z9.2.2.2.2.2.2.2.2.2.2.2.1) h9
    rw [← e9]
    have e9 : (x2.2.2.2.2.2.1) = w11 := congrArg (fun z9 => z9.2.2.2.2.2.2.2.2.2.2.2.2.1) h9
    rw [← e9]
    have e9 : (x2.2.2.2.2.2.2.1) = w12 := congrArg (fun z9 => z9.2.2.2.2.2.2.2.2.2.2.2.2.2.1) h9
    rw [← e9]
    have e9 : (x2.2.2.2.2.2.2.2) = w13 := congrArg (fun z9 => z9.2.2.2.2.2.2.2.2.2.2.2.2.2.2) h9
    rw [← e9]
    exact k_iret hx hb hr hlocks hP hS rfl dX4_readOver_43
  have h := it_n h c3
  refine lv_aload_n hx hb dX4_readOver_44 rfl (lv_at hl 0 rfl) ?_
  refine va_get (D := G) (ci := 4) (v := .int (x2.2.2.2.1)) (C := RX4) (T := TX4) (N := 6) hx hb hts hinX4 hown hK hP 0 rfl rfl 5 (by decide) (hta _ mw_190) (fun _ h9 => h9) rfl dX4_readOver_45 ?_
  refine lv_iconst (v := (-1 : Int32)) hx hb dX4_readOver_48 (by decide) ?_
  refine lv_icmp_eq (tgt := 71) hx hb dX4_readOver_49 (by decide) (fun c4 => ?_) (fun c4 => ?_)
  · have h := it_p h c4
    refine lv_aload_n hx hb dX4_readOver_71 rfl (lv_at hl 1 rfl) ?_
    refine lv_aload_n hx hb dX4_readOver_72 rfl (lv_at hl 0 rfl) ?_
    refine va_get (D := G) (ci := 4) (v := .ref h_t_told) (C := RX4) (T := TX4) (N := 6) hx hb hts hinX4 hown hK hP 0 rfl rfl 1 (by decide) (hta _ mw_179) (fun _ h9 => h9) rfl dX4_readOver_73 ?_
    obtain ⟨x5, hx5, h⟩ := bd_e h
    try dsimp only at h
    refine k_VvM (n := 1) (As := [.ref h_t_told]) (rest := []) hx hb hml hown hts (c_X1_copyFrom l G cI cJ cD cH H.size h_p0 h_t_told h_p0_powers h_t_told_powers p0_genus p0_size p0_limit p0_tree (x2.2.2.2.2.1) (x2.2.2.2.2.2.1) (x2.2.2.2.2.2.2.1) (x2.2.2.2.2.2.2.2) a_p0_powers (x2.2.1) (x5.1) (x5.2.1) (x5.2.2.1) (x5.2.2.2.1) (x5.2.2.2.2) hx5) gX4_readOver_X1_copyFrom rfl rfl rfl (by decide +kernel) ⟨by first | exact Nat.le_of_ble_eq_true rfl | (simp only [headSpec]; omega), by first | exact Nat.le_of_ble_eq_true rfl | (simp only [headSpec]; omega)⟩ hK hP hD hS hA [1, 2, 4, 3] (by decide) rfl rfl (ci := 1) rfl rfl rfl rfl rfl hl.1 (Nat.le_of_ble_eq_true rfl) dX4_readOver_76 ⟨Nat.zero_le _, Nat.zero_le _⟩ [(h_t, .inr (4, [.ref h_t_tape, .ref h_t_told, .ref h_t_causes, .int t_refused, .int (x2.2.2.1), .int (x2.2.2.2.1)])), (h_p0, .inr (1, [.int (x5.2.1), .int (x5.2.2.1), .ref h_p0_powers, .int (x5.2.2.2.1), .long (x5.2.2.2.2)])), (h_t_told, .inr (1, [.int (x2.2.2.2.2.1), .int (x2.2.2.2.2.2.1), .ref h_t_told_powers, .int (x2.2.2.2.2.2.2.1), .long (x2.2.2.2.2.2.2.2)])), (h_t_told_powers, .inl (cI, 8, .inl (x2.2.1))), (h_p0_powers, .inl (cI, 8, .inl (x5.1))), (h_t_tape, .inr (6, [.ref h_t_tape_bytes, .int t_tape_size])), (h_t_tape_bytes, .inl (cI, 60, .inl a_t_tape_bytes)), (h_t_causes, .inl (cI, 6, .inl a_t_causes))] [0, 1, 2, 4, 3, 0, 0, 0] 4 (by decide +kernel) rfl rfl rfl (fun hp5 H locs hP hD hS => ?_)
    refine lv_aload_n hx hb dX4_readOver_79 rfl (lv_at hl 1 rfl) ?_
    refine va_get (D := G) (ci := 1) (v := .int (x5.2.2.1)) (C := RX1) (T := TX1) (N := 5) hx hb hts hinX1 hown hK hP 1 rfl rfl 1 (by decide) (hta _ mw_191) (fun _ h9 => h9) rfl dX4_readOver_80 ?_
    have h9 := Option.some.inj h
    have e9 : (x5.2.2.1) = r0 := congrArg (fun z9 => z9.1) h9
    rw [← e9]
    have e9 : (x2.2.1) = w0 := congrArg (fun z9 => z9.2.1) h9
    rw [← e9]
    have e9 : (x5.1) = w1 := congrArg (fun z9 => z9.2.2.1) h9
    rw [← e9]
    have e9 : a_t_causes = w2 := congrArg (fun z9 => z9.2.2.2.1) h9
    rw [← e9]
    have e9 : t_refused = w3 := congrArg (fun z9 => z9.2.2.2.2.1) h9
    rw [← e9]
    have e9 : (x2.2.2.1) = w4 := congrArg (fun z9 => z9.2.2.2.2.2.1) h9
    rw [← e9]
    have e9 : (x2.2.2.2.1) = w5 := congrArg (fun z9 => z9.2.2.2.2.2.2.1) h9
    rw [← e9]
    have e9 : (x5.2.1) = w6 := congrArg (fun z9 => z9.2.2.2.2.2.2.2.1) h9
    rw [← e9]
    have e9 : (x5.2.2.1) = w7 := congrArg (fun z9 => z9.2.2.2.2.2.2.2.2.1) h9
    rw [← e9]
    have e9 : (x5.2.2.2.1) = w8 := congrArg (fun z9 => z9.2.2.2.2.2.2.2.2.2.1) h9
    rw [← e9]
    have e9 : (x5.2.2.2.2) = w9 := congrArg (fun z9 => z9.2.2.2.2.2.2.2.2.2.2.1) h9
    rw [← e9]
    have e9 : (x2.2.2.2.2.1) = w10 := congrArg (fun z9 => z9.2.2.2.2.2.2.2.2.2.2.2.1) h9
    rw [← e9]
    have e9 : (x2.2.2.2.2.2.1) = w11 := congrArg (fun z9 => z9.2.2.2.2.2.2.2.2.2.2.2.2.1) h9
    rw [← e9]
    have e9 : (x2.2.2.2.2.2.2.1) = w12 := congrArg (fun z9 => z9.2.2.2.2.2.2.2.2.2.2.2.2.2.1) h9
    rw [← e9]
    have e9 : (x2.2.2.2.2.2.2.2) = w13 := congrArg (fun z9 => z9.2.2.2.2.2.2.2.2.2.2.2.2.2.2) h9
    rw [← e9]
    exact k_iret hx hb hr hlocks hP hS rfl dX4_readOver_83
  have h := it_n h c4
  refine lv_aload_n hx hb dX4_readOver_52 rfl (lv_at hl 0 rfl) ?_
  refine lv_bipush (v := (7 : Int32)) hx hb dX4_readOver_53 (by decide) ?_
  refine lv_aload_n hx hb dX4_readOver_55 rfl (lv_at hl 0 rfl) ?_
  refine va_get (D := G) (ci := 4) (v := .int (x2.2.2.2.1)) (C := RX4) (T := TX4) (N := 6) hx hb hts hinX4 hown hK hP 0 rfl rfl 5 (by decide) (hta _ mw_190) (fun _ h9 => h9) rfl dX4_readOver_56 ?_
  obtain ⟨x6, hx6, h⟩ := bd_e h
  try dsimp only at h
  refine k_VvM (n := 2) (As := [.int (7 : Int32), .int (x2.2.2.2.1)]) (rest := []) hx hb hml hown hts (c_X4_keepWhy l G cI cJ cD cH H.size h_t h_t_causes h_t_tape h_t_tape_bytes h_t_told t_refused (x2.2.2.1) (x2.2.2.2.1) a_t_causes t_tape_size a_t_tape_bytes (7 : Int32) (x2.2.2.2.1) (x6.1) (x6.2) hx6) gX4_readOver_X4_keepWhy rfl rfl rfl (by decide +kernel) ⟨by first | exact Nat.le_of_ble_eq_true rfl | (simp only [headSpec]; omega), by first | exact Nat.le_of_ble_eq_true rfl | (simp only [headSpec]; omega)⟩ hK hP hD hS hA [0, 7, 5, 6] (by decide) rfl rfl (ci := 4) rfl rfl rfl rfl rfl hl.1 (Nat.le_of_ble_eq_true rfl) dX4_readOver_59 ⟨Nat.zero_le _, Nat.zero_le _⟩ [(h_t, .inr (4, [.ref h_t_tape, .ref h_t_told, .ref h_t_causes, .int (x6.2), .int (x2.2.2.1), .int (x2.2.2.2.1)])), (h_p0, .inr (1, [.int p0_genus, .int p0_size, .ref h_p0_powers, .int p0_limit, .long p0_tree])), (h_t_told, .inr (1, [.int (x2.2.2.2.2.1), .int (x2.2.2.2.2.2.1), .ref h_t_told_powers, .int (x2.2.2.2.2.2.2.1), .long (x2.2.2.2.2.2.2.2)])), (h_t_told_powers, .inl (cI, 8, .inl (x2.2.1))), (h_p0_powers, .inl (cI, 8, .inl a_p0_powers)), (h_t_tape, .inr (6, [.ref h_t_tape_bytes, .int t_tape_size])), (h_t_tape_bytes, .inl (cI, 60, .inl a_t_tape_bytes)), (h_t_causes, .inl (cI, 6, .inl (x6.1)))] [1, 0, 0, 0, 0, 3, 4, 2] 4 (by decide +kernel) rfl rfl rfl (fun hp6 H locs hP hD hS => ?_)
  refine lv_sipush (v := (-2000 : Int32)) hx hb dX4_readOver_62 (by decide) ?_
  refine lv_aload_n hx hb dX4_readOver_65 rfl (lv_at hl 0 rfl) ?_
  refine va_get (D := G) (ci := 4) (v := .int (x2.2.2.2.1)) (C := RX4) (T := TX4) (N := 6) hx hb hts hinX4 hown hK hP 0 rfl rfl 5 (by decide) (hta _ mw_190) (fun _ h9 => h9) rfl dX4_readOver_66 ?_
  refine lv_isub hx hb dX4_readOver_69 ?_
  have h9 := Option.some.inj h
  have e9 : ((-2000 : Int32) - (x2.2.2.2.1)) = r0 := congrArg (fun z9 => z9.1) h9
  rw [← e9]
  have e9 : (x2.2.1) = w0 := congrArg (fun z9 => z9.2.1) h9
  rw [← e9]
  have e9 : a_p0_powers = w1 := congrArg (fun z9 => z9.2.2.1) h9
  rw [← e9]
  have e9 : (x6.1) = w2 := congrArg (fun z9 => z9.2.2.2.1) h9
  rw [← e9]
  have e9 : (x6.2) = w3 := congrArg (fun z9 => z9.2.2.2.2.1) h9
  rw [← e9]
  have e9 : (x2.2.2.1) = w4 := congrArg (fun z9 => z9.2.2.2.2.2.1) h9
  rw [← e9]
  have e9 : (x2.2.2.2.1) = w5 := congrArg (fun z9 => z9.2.2.2.2.2.2.1) h9
  rw [← e9]
  have e9 : p0_genus = w6 := congrArg (fun z9 => z9.2.2.2.2.2.2.2.1) h9
  rw [← e9]
  have e9 : p0_size = w7 := congrArg (fun z9 => z9.2.2.2.2.2.2.2.2.1) h9
  rw [← e9]
  have e9 : p0_limit = w8 := congrArg (fun z9 => z9.2.2.2.2.2.2.2.2.2.1) h9
  rw [← e9]
  have e9 : p0_tree = w9 := congrArg (fun z9 => z9.2.2.2.2.2.2.2.2.2.2.1) h9
  rw [← e9]
  have e9 : (x2.2.2.2.2.1) = w10 := congrArg (fun z9 => z9.2.2.2.2.2.2.2.2.2.2.2.1) h9
  rw [← e9]
  have e9 : (x2.2.2.2.2.2.1) = w11 := congrArg (fun z9 => z9.2.2.2.2.2.2.2.2.2.2.2.2.1) h9
  rw [← e9]
  have e9 : (x2.2.2.2.2.2.2.1) = w12 := congrArg (fun z9 => z9.2.2.2.2.2.2.2.2.2.2.2.2.2.1) h9
  rw [← e9]
  have e9 : (x2.2.2.2.2.2.2.2) = w13 := congrArg (fun z9 => z9.2.2.2.2.2.2.2.2.2.2.2.2.2.2) h9
  rw [← e9]
  exact k_iret hx hb hr hlocks hP hS rfl dX4_readOver_70

/-! X5_byteAt -/
set_option maxHeartbeats 4000000 in
set_option maxRecDepth 100000 in
theorem c_X5_byteAt (l : Launch) (G : va_G) (cI cJ cD cH : ClassId) (sz : Nat) (h_t : Nat) (h_t_bytes : Nat) (t_size : Int32) (a_t_bytes : Nat → Int32) (p0 : Int32) (r0 : Int32) (hF : F_X5_byteAt t_size a_t_bytes p0 = some r0) : Met l yX5_byteAt wsX5_byteAt ({ frames := 0, cells := 0, slots := 0, locals := 0 }) (k_pre G (k_T cI cJ cD cH) [(h_t, .inr (5, [.ref h_t_bytes, .int t_size])), (h_t_bytes, .inl (cI, 39, .inl a_t_bytes))] sz [.ref h_t, .int p0]) (va_Qi (fun r (_ : Unit) => r = r0 ∧ True) (fun _ t => va_P G vwCl [(h_t, .inr (5, [.ref h_t_bytes, .int t_size])), (h_t_bytes, .inl (cI, 39, .inl a_t_bytes))] t.heap) (va_A [(h_t, .inr (5, [.ref h_t_bytes, .int t_size])), (h_t_bytes, .inl (cI, 39, .inl a_t_bytes))] sz)) 0 0 (va_A [(h_t, .inr (5, [.ref h_t_bytes, .int t_size])), (h_t_bytes, .inl (cI, 39, .inl a_t_bytes))] sz) := by
  refine Met.ofW (cc := cX5_byteAt) (maxL := 2) (ret := (some .int)) (by decide) rfl ?_
  intro p e s m args below meth c s₁ B hml hv
  obtain ⟨rfl, hsz, hP, hK, hD0⟩ := hv
  have hx := B.exec
  have hb := B.bytes
  have hr := B.returns
  have hts := atoms_spec (ws := wsX5_byteAt) B.pre
  have hta : ∀ w ∈ wA, w.before ([.ref h_t, .int p0] : List Value).toArray s = true := hta_of hts
  have hown : s.vm.findClass RX5 = some m.cls := findClass_of_methodNamed B.named
  have hlocks := B.notSynchronized
  subst hsz
  have hD := hD0.self (sz := s.heap.size)
  generalize hAe : va_A [(h_t, .inr (5, [.ref h_t_bytes, .int t_size])), (h_t_bytes, .inl (cI, 39, .inl a_t_bytes))] s.heap.size = A at hD ⊢
  have hA : ∀ q : Nat, s.heap.size ≤ q → A q := fun q h => by rw [← hAe]; exact Or.inr h
  have hS : va_S A s.heap s.heap [] := va_S.rf
  have hl := lv_entry ([.ref h_t, .int p0]) (n := 2) (Nat.le_of_ble_eq_true rfl)
  rw [lg_entry_eq]
  generalize (lg_sl ([.ref h_t, .int p0]) ++ List.replicate (2 - (lg_sl ([.ref h_t, .int p0])).length) Slot.unset).toArray = ls at hl ⊢
  have hl : lv_has ls 2 [(0, .ref h_t), (1, .int p0)] := hl
  have hinX5 : ∀ w ∈ wsX50, w ∈ wsX5_byteAt := hin_of in_X5
  have h := hF
  unfold F_X5_byteAt at h
  refine lv_iload_n hx hb dX5_byteAt_0 rfl (lv_at hl 1 rfl) ?_
  refine lv_if_lt (tgt := 27) hx hb dX5_byteAt_1 (by decide) (fun c1 => ?_) (fun c1 => ?_)
  · have h := it_p h c1
    refine lv_bipush (v := (-2 : Int32)) hx hb dX5_byteAt_27 (by decide) ?_
    have h9 := Option.some.inj h
    have e9 : (-2 : Int32) = r0 := congrArg (fun z9 => z9) h9
    rw [← e9]
    exact k_iret hx hb hr hlocks hP hS rfl dX5_byteAt_29
  have h := it_n h c1
  refine lv_iload_n hx hb dX5_byteAt_4 rfl (lv_at hl 1 rfl) ?_
  refine lv_aload_n hx hb dX5_byteAt_5 rfl (lv_at hl 0 rfl) ?_
  refine va_get (D := G) (ci := 5) (v := .int t_size) (C := RX5) (T := TX5) (N := 2) hx hb hts hinX5 hown hK hP 0 rfl rfl 1 (by decide) (hta _ mw_301) (fun _ h9 => h9) rfl dX5_byteAt_6 ?_
  refine lv_icmp_ge (tgt := 27) hx hb dX5_byteAt_9 (by decide) (fun c2 => ?_) (fun c2 => ?_)
  · have h := it_p h c2
    refine lv_bipush (v := (-2 : Int32)) hx hb dX5_byteAt_27 (by decide) ?_
    have h9 := Option.some.inj h
    have e9 : (-2 : Int32) = r0 := congrArg (fun z9 => z9) h9
    rw [← e9]
    exact k_iret hx hb hr hlocks hP hS rfl dX5_byteAt_29
  have h := it_n h c2
  refine lv_iload_n hx hb dX5_byteAt_12 rfl (lv_at hl 1 rfl) ?_
  refine lv_bipush (v := (39 : Int32)) hx hb dX5_byteAt_13 (by decide) ?_
  refine lv_icmp_ge (tgt := 27) hx hb dX5_byteAt_15 (by decide) (fun c3 => ?_) (fun c3 => ?_)
  · have h := it_p h c3
    refine lv_bipush (v := (-2 : Int32)) hx hb dX5_byteAt_27 (by decide) ?_
    have h9 := Option.some.inj h
    have e9 : (-2 : Int32) = r0 := congrArg (fun z9 => z9) h9
    rw [← e9]
    exact k_iret hx hb hr hlocks hP hS rfl dX5_byteAt_29
  have h := it_n h c3
  refine lv_aload_n hx hb dX5_byteAt_18 rfl (lv_at hl 0 rfl) ?_
  refine va_get (D := G) (ci := 5) (v := .ref h_t_bytes) (C := RX5) (T := TX5) (N := 2) hx hb hts hinX5 hown hK hP 0 rfl rfl 0 (by decide) (hta _ mw_299) (fun _ h9 => h9) rfl dX5_byteAt_19 ?_
  refine lv_iload_n hx hb dX5_byteAt_22 rfl (lv_at hl 1 rfl) ?_
  obtain ⟨hn4, h⟩ := ck_e h
  refine va_iald hx hb hK hP 1 0 rfl rfl hn4 dX5_byteAt_23 ?_
  refine lv_goto (tgt := 29) hx hb dX5_byteAt_24 (by decide) ?_
  have h9 := Option.some.inj h
  have e9 : (a_t_bytes p0.toNatClampNeg) = r0 := congrArg (fun z9 => z9) h9
  rw [← e9]
  exact k_iret hx hb hr hlocks hP hS rfl dX5_byteAt_29

/-! X5_addByte -/
set_option maxHeartbeats 4000000 in
set_option maxRecDepth 100000 in
theorem c_X5_addByte (l : Launch) (G : va_G) (cI cJ cD cH : ClassId) (sz : Nat) (h_t : Nat) (h_t_bytes : Nat) (t_size : Int32) (a_t_bytes : Nat → Int32) (p0 : Int32) (w0 : Nat → Int32) (w1 : Int32) (hF : F_X5_addByte t_size a_t_bytes p0 = some (w0, w1)) : Met l yX5_addByte wsX5_addByte ({ frames := 0, cells := 0, slots := 0, locals := 0 }) (k_pre G (k_T cI cJ cD cH) [(h_t, .inr (5, [.ref h_t_bytes, .int t_size])), (h_t_bytes, .inl (cI, 39, .inl a_t_bytes))] sz [.ref h_t, .int p0]) (va_Qv (fun (_ : Unit) => True) (fun _ t => va_P G vwCl [(h_t, .inr (5, [.ref h_t_bytes, .int w1])), (h_t_bytes, .inl (cI, 39, .inl w0))] t.heap) (va_A [(h_t, .inr (5, [.ref h_t_bytes, .int t_size])), (h_t_bytes, .inl (cI, 39, .inl a_t_bytes))] sz)) 0 0 (va_A [(h_t, .inr (5, [.ref h_t_bytes, .int t_size])), (h_t_bytes, .inl (cI, 39, .inl a_t_bytes))] sz) := by
  refine Met.ofW (cc := cX5_addByte) (maxL := 2) (ret := none) (by decide) rfl ?_
  intro p e s m args below meth c s₁ B hml hv
  obtain ⟨rfl, hsz, hP, hK, hD0⟩ := hv
  have hx := B.exec
  have hb := B.bytes
  have hr := B.returns
  have hts := atoms_spec (ws := wsX5_addByte) B.pre
  have hta : ∀ w ∈ wA, w.before ([.ref h_t, .int p0] : List Value).toArray s = true := hta_of hts
  have hown : s.vm.findClass RX5 = some m.cls := findClass_of_methodNamed B.named
  have hlocks := B.notSynchronized
  subst hsz
  have hD := hD0.self (sz := s.heap.size)
  generalize hAe : va_A [(h_t, .inr (5, [.ref h_t_bytes, .int t_size])), (h_t_bytes, .inl (cI, 39, .inl a_t_bytes))] s.heap.size = A at hD ⊢
  have hA : ∀ q : Nat, s.heap.size ≤ q → A q := fun q h => by rw [← hAe]; exact Or.inr h
  have hS : va_S A s.heap s.heap [] := va_S.rf
  have hl := lv_entry ([.ref h_t, .int p0]) (n := 2) (Nat.le_of_ble_eq_true rfl)
  rw [lg_entry_eq]
  generalize (lg_sl ([.ref h_t, .int p0]) ++ List.replicate (2 - (lg_sl ([.ref h_t, .int p0])).length) Slot.unset).toArray = ls at hl ⊢
  have hl : lv_has ls 2 [(0, .ref h_t), (1, .int p0)] := hl
  have hinX5 : ∀ w ∈ wsX50, w ∈ wsX5_addByte := hin_of in_X5
  have h := hF
  unfold F_X5_addByte at h
  refine lv_aload_n hx hb dX5_addByte_0 rfl (lv_at hl 0 rfl) ?_
  refine va_get (D := G) (ci := 5) (v := .int t_size) (C := RX5) (T := TX5) (N := 2) hx hb hts hinX5 hown hK hP 0 rfl rfl 1 (by decide) (hta _ mw_301) (fun _ h9 => h9) rfl dX5_addByte_1 ?_
  refine lv_bipush (v := (39 : Int32)) hx hb dX5_addByte_4 (by decide) ?_
  refine lv_icmp_ge (tgt := 29) hx hb dX5_addByte_6 (by decide) (fun c1 => ?_) (fun c1 => ?_)
  · have h := it_p h c1
    have h9 := Option.some.inj h
    have e9 : a_t_bytes = w0 := congrArg (fun z9 => z9.1) h9
    rw [← e9]
    have e9 : t_size = w1 := congrArg (fun z9 => z9.2) h9
    rw [← e9]
    exact k_vret hx hb hr hlocks hP hS dX5_addByte_29
  have h := it_n h c1
  refine lv_aload_n hx hb dX5_addByte_9 rfl (lv_at hl 0 rfl) ?_
  refine va_get (D := G) (ci := 5) (v := .ref h_t_bytes) (C := RX5) (T := TX5) (N := 2) hx hb hts hinX5 hown hK hP 0 rfl rfl 0 (by decide) (hta _ mw_299) (fun _ h9 => h9) rfl dX5_addByte_10 ?_
  refine lv_aload_n hx hb dX5_addByte_13 rfl (lv_at hl 0 rfl) ?_
  refine va_get (D := G) (ci := 5) (v := .int t_size) (C := RX5) (T := TX5) (N := 2) hx hb hts hinX5 hown hK hP 0 rfl rfl 1 (by decide) (hta _ mw_301) (fun _ h9 => h9) rfl dX5_addByte_14 ?_
  refine lv_iload_n hx hb dX5_addByte_17 rfl (lv_at hl 1 rfl) ?_
  obtain ⟨hn2, h⟩ := ck_e h
  refine va_iast hx hb hK hP hD hS 1 0 rfl rfl hn2 dX5_addByte_18 (fun H locs hP hD hS => ?_)
  have hP : va_P G vwCl [(h_t, .inr (5, [.ref h_t_bytes, .int t_size])), (h_t_bytes, .inl (cI, 39, .inl (upd a_t_bytes t_size.toNatClampNeg p0)))] H := hP
  have hD : va_D A [(h_t, .inr (5, [.ref h_t_bytes, .int t_size])), (h_t_bytes, .inl (cI, 39, .inl (upd a_t_bytes t_size.toNatClampNeg p0)))] := hD
  refine lv_aload_n hx hb dX5_addByte_19 rfl (lv_at hl 0 rfl) ?_
  refine lv_dup hx hb dX5_addByte_20 rfl ?_
  refine va_get (D := G) (ci := 5) (v := .int t_size) (C := RX5) (T := TX5) (N := 2) hx hb hts hinX5 hown hK hP 0 rfl rfl 1 (by decide) (hta _ mw_301) (fun _ h9 => h9) rfl dX5_addByte_21 ?_
  refine lv_iconst (v := (1 : Int32)) hx hb dX5_addByte_24 (by decide) ?_
  refine lv_iadd hx hb dX5_addByte_25 ?_
  refine va_put (D := G) (ci := 5) (v := .int (t_size + (1 : Int32))) (ty := .int) (C := RX5) (T := TX5) (N := 2) hx hb hts hinX5 tyX5 tyX5_ok nmX5 hown hK hP hD hS 0 rfl rfl 1 (by decide) (hta _ mw_301) (fun _ h9 => h9) rfl (by decide +kernel) rfl rfl (Nat.le_of_ble_eq_true rfl) dX5_addByte_26 (fun H locs hP hD hS => ?_)
  have hP : va_P G vwCl [(h_t, .inr (5, [.ref h_t_bytes, .int (t_size + (1 : Int32))])), (h_t_bytes, .inl (cI, 39, .inl (upd a_t_bytes t_size.toNatClampNeg p0)))] H := hP
  have hD : va_D A [(h_t, .inr (5, [.ref h_t_bytes, .int (t_size + (1 : Int32))])), (h_t_bytes, .inl (cI, 39, .inl (upd a_t_bytes t_size.toNatClampNeg p0)))] := hD
  have h9 := Option.some.inj h
  have e9 : (upd a_t_bytes t_size.toNatClampNeg p0) = w0 := congrArg (fun z9 => z9.1) h9
  rw [← e9]
  have e9 : (t_size + (1 : Int32)) = w1 := congrArg (fun z9 => z9.2) h9
  rw [← e9]
  exact k_vret hx hb hr hlocks hP hS dX5_addByte_29

/-! X5_addFigure -/
set_option maxHeartbeats 4000000 in
set_option maxRecDepth 100000 in
theorem c_X5_addFigure (l : Launch) (G : va_G) (cI cJ cD cH : ClassId) (sz : Nat) (h_t : Nat) (h_t_bytes : Nat) (t_size : Int32) (a_t_bytes : Nat → Int32) (p0 : Int32) (w0 : Nat → Int32) (w1 : Int32) (hF : F_X5_addFigure t_size a_t_bytes p0 = some (w0, w1)) : Met l yX5_addFigure wsX5_addFigure ({ frames := 1, cells := 0, slots := 0, locals := 21 }) (k_pre G (k_T cI cJ cD cH) [(h_t, .inr (5, [.ref h_t_bytes, .int t_size])), (h_t_bytes, .inl (cI, 39, .inl a_t_bytes))] sz [.ref h_t, .int p0]) (va_Qv (fun (_ : Unit) => True) (fun _ t => va_P G vwCl [(h_t, .inr (5, [.ref h_t_bytes, .int w1])), (h_t_bytes, .inl (cI, 39, .inl w0))] t.heap) (va_A [(h_t, .inr (5, [.ref h_t_bytes, .int t_size])), (h_t_bytes, .inl (cI, 39, .inl a_t_bytes))] sz)) 0 0 (va_A [(h_t, .inr (5, [.ref h_t_bytes, .int t_size])), (h_t_bytes, .inl (cI, 39, .inl a_t_bytes))] sz) := by
  refine Met.ofW (cc := cX5_addFigure) (maxL := 2) (ret := none) (by decide) rfl ?_
  intro p e s m args below meth c s₁ B hml hv
  obtain ⟨rfl, hsz, hP, hK, hD0⟩ := hv
  have hx := B.exec
  have hb := B.bytes
  have hr := B.returns
  have hts := atoms_spec (ws := wsX5_addFigure) B.pre
  have hta : ∀ w ∈ wA, w.before ([.ref h_t, .int p0] : List Value).toArray s = true := hta_of hts
  have hown : s.vm.findClass RX5 = some m.cls := findClass_of_methodNamed B.named
  have hlocks := B.notSynchronized
  subst hsz
  have hD := hD0.self (sz := s.heap.size)
  generalize hAe : va_A [(h_t, .inr (5, [.ref h_t_bytes, .int t_size])), (h_t_bytes, .inl (cI, 39, .inl a_t_bytes))] s.heap.size = A at hD ⊢
  have hA : ∀ q : Nat, s.heap.size ≤ q → A q := fun q h => by rw [← hAe]; exact Or.inr h
  have hS : va_S A s.heap s.heap [] := va_S.rf
  have hl := lv_entry ([.ref h_t, .int p0]) (n := 2) (Nat.le_of_ble_eq_true rfl)
  rw [lg_entry_eq]
  generalize (lg_sl ([.ref h_t, .int p0]) ++ List.replicate (2 - (lg_sl ([.ref h_t, .int p0])).length) Slot.unset).toArray = ls at hl ⊢
  have hl : lv_has ls 2 [(0, .ref h_t), (1, .int p0)] := hl
  have h := hF
  unfold F_X5_addFigure at h
  refine lv_aload_n hx hb dX5_addFigure_0 rfl (lv_at hl 0 rfl) ?_
  refine lv_bipush (v := (48 : Int32)) hx hb dX5_addFigure_1 (by decide) ?_
  refine lv_iload_n hx hb dX5_addFigure_3 rfl (lv_at hl 1 rfl) ?_
  refine lv_iadd hx hb dX5_addFigure_4 ?_
  obtain ⟨x1, hx1, h⟩ := bd_e h
  try dsimp only at h
  refine k_VvM (n := 1) (As := [.int ((48 : Int32) + p0)]) (rest := []) hx hb hml hown hts (c_X5_addByte l G cI cJ cD cH s.heap.size h_t h_t_bytes t_size a_t_bytes ((48 : Int32) + p0) (x1.1) (x1.2) hx1) gX5_addFigure_X5_addByte rfl rfl rfl (by decide +kernel) ⟨by first | exact Nat.le_of_ble_eq_true rfl | (simp only [headSpec]; omega), by first | exact Nat.le_of_ble_eq_true rfl | (simp only [headSpec]; omega)⟩ hK hP hD hS hA [0, 1] (by decide) rfl rfl (ci := 5) rfl rfl rfl rfl rfl hl.1 (Nat.le_of_ble_eq_true rfl) dX5_addFigure_5 ⟨Nat.zero_le _, Nat.zero_le _⟩ [(h_t, .inr (5, [.ref h_t_bytes, .int (x1.2)])), (h_t_bytes, .inl (cI, 39, .inl (x1.1)))] [1, 2] 2 (by decide +kernel) rfl rfl rfl (fun hp1 H locs hP hD hS => ?_)
  have h9 := Option.some.inj h
  have e9 : (x1.1) = w0 := congrArg (fun z9 => z9.1) h9
  rw [← e9]
  have e9 : (x1.2) = w1 := congrArg (fun z9 => z9.2) h9
  rw [← e9]
  exact k_vret hx hb hr hlocks hP hS dX5_addFigure_8

/-! X5_addPower -/
set_option maxHeartbeats 4000000 in
set_option maxRecDepth 100000 in
theorem tJ_X5_addPower_14 {l : Launch} {G : va_G} {cI cJ cD cH : ClassId} {h_t : Nat} {h_t_bytes : Nat} {p0 : Int32} {w0 : Nat → Int32} {w1 : Int32} {p : Program} {e : Env} {s : State} {m : MethodId} {below : List Frame} {meth : Method} {c : Code} {A : Nat → Prop} (hx : p.tables.exec = Jvm.exec) (hb : c.code = cX5_addPower) (hr : meth.sig.returnType = none) (hml : c.maxLocals = 2) (hts : ∀ w ∈ wsX5_addPower, w.before ([.ref h_t, .int p0] : List Value).toArray s = true) (hown : s.vm.findClass RX5 = some m.cls) (hlocks : meth.locks = false) (hK : va_K G vwCl (k_T cI cJ cD cH) s) (hA : ∀ q : Nat, s.heap.size ≤ q → A q) : ∀  (vJ14_0 : Nat → Int32) (vJ14_1 : Int32) (H : Heap) (locs : List Loc) (ls : Array Slot), va_P G vwCl [(h_t, .inr (5, [.ref h_t_bytes, .int vJ14_1])), (h_t_bytes, .inl (cI, 39, .inl vJ14_0))] H → va_D A [(h_t, .inr (5, [.ref h_t_bytes, .int vJ14_1])), (h_t_bytes, .inl (cI, 39, .inl vJ14_0))] → va_S A s.heap H locs → lv_has ls 2 [(0, .ref h_t), (1, .int p0)] → J_X5_addPower_14 p0 vJ14_0 vJ14_1 = some (w0, w1) → W p l e (headSpec wsX5_addPower ({ frames := 2, cells := 0, slots := 0, locals := 42 })).room s m ([.ref h_t, .int p0] : List Value).toArray below meth c H locs 0 0 (MQ below (va_Qv (fun (_ : Unit) => True) (fun _ t => va_P G vwCl [(h_t, .inr (5, [.ref h_t_bytes, .int w1])), (h_t_bytes, .inl (cI, 39, .inl w0))] t.heap) A) ([.ref h_t, .int p0] : List Value).toArray s 0 0 A) (F0 m 14 ls []) := by
  have hta : ∀ w ∈ wA, w.before ([.ref h_t, .int p0] : List Value).toArray s = true := hta_of hts
  intro vJ14_0 vJ14_1 H locs ls hP hD hS hl h
  unfold J_X5_addPower_14 at h
  refine lv_aload_n hx hb dX5_addPower_14 rfl (lv_at hl 0 rfl) ?_
  refine lv_iload_n hx hb dX5_addPower_15 rfl (lv_at hl 1 rfl) ?_
  refine lv_bipush (v := (10 : Int32)) hx hb dX5_addPower_16 (by decide) ?_
  refine lv_irem hx hb dX5_addPower_18 (by decide) ?_
  obtain ⟨x1, hx1, h⟩ := bd_e h
  try dsimp only at h
  refine k_VvM (n := 1) (As := [.int (p0 - p0 / (10 : Int32) * (10 : Int32))]) (rest := []) hx hb hml hown hts (c_X5_addFigure l G cI cJ cD cH H.size h_t h_t_bytes vJ14_1 vJ14_0 (p0 - p0 / (10 : Int32) * (10 : Int32)) (x1.1) (x1.2) hx1) gX5_addPower_X5_addFigure rfl rfl rfl (by decide +kernel) ⟨by first | exact Nat.le_of_ble_eq_true rfl | (simp only [headSpec]; omega), by first | exact Nat.le_of_ble_eq_true rfl | (simp only [headSpec]; omega)⟩ hK hP hD hS hA [0, 1] (by decide) rfl rfl (ci := 5) rfl rfl rfl rfl rfl hl.1 (Nat.le_of_ble_eq_true rfl) dX5_addPower_19 ⟨Nat.zero_le _, Nat.zero_le _⟩ [(h_t, .inr (5, [.ref h_t_bytes, .int (x1.2)])), (h_t_bytes, .inl (cI, 39, .inl (x1.1)))] [1, 2] 2 (by decide +kernel) rfl rfl rfl (fun hp1 H locs hP hD hS => ?_)
  have h9 := Option.some.inj h
  have e9 : (x1.1) = w0 := congrArg (fun z9 => z9.1) h9
  rw [← e9]
  have e9 : (x1.2) = w1 := congrArg (fun z9 => z9.2) h9
  rw [← e9]
  exact k_vret hx hb hr hlocks hP hS dX5_addPower_22
set_option maxHeartbeats 4000000 in
set_option maxRecDepth 100000 in
theorem c_X5_addPower (l : Launch) (G : va_G) (cI cJ cD cH : ClassId) (sz : Nat) (h_t : Nat) (h_t_bytes : Nat) (t_size : Int32) (a_t_bytes : Nat → Int32) (p0 : Int32) (w0 : Nat → Int32) (w1 : Int32) (hF : F_X5_addPower t_size a_t_bytes p0 = some (w0, w1)) : Met l yX5_addPower wsX5_addPower ({ frames := 2, cells := 0, slots := 0, locals := 42 }) (k_pre G (k_T cI cJ cD cH) [(h_t, .inr (5, [.ref h_t_bytes, .int t_size])), (h_t_bytes, .inl (cI, 39, .inl a_t_bytes))] sz [.ref h_t, .int p0]) (va_Qv (fun (_ : Unit) => True) (fun _ t => va_P G vwCl [(h_t, .inr (5, [.ref h_t_bytes, .int w1])), (h_t_bytes, .inl (cI, 39, .inl w0))] t.heap) (va_A [(h_t, .inr (5, [.ref h_t_bytes, .int t_size])), (h_t_bytes, .inl (cI, 39, .inl a_t_bytes))] sz)) 0 0 (va_A [(h_t, .inr (5, [.ref h_t_bytes, .int t_size])), (h_t_bytes, .inl (cI, 39, .inl a_t_bytes))] sz) := by
  refine Met.ofW (cc := cX5_addPower) (maxL := 2) (ret := none) (by decide) rfl ?_
  intro p e s m args below meth c s₁ B hml hv
  obtain ⟨rfl, hsz, hP, hK, hD0⟩ := hv
  have hx := B.exec
  have hb := B.bytes
  have hr := B.returns
  have hts := atoms_spec (ws := wsX5_addPower) B.pre
  have hta : ∀ w ∈ wA, w.before ([.ref h_t, .int p0] : List Value).toArray s = true := hta_of hts
  have hown : s.vm.findClass RX5 = some m.cls := findClass_of_methodNamed B.named
  have hlocks := B.notSynchronized
  subst hsz
  have hD := hD0.self (sz := s.heap.size)
  generalize hAe : va_A [(h_t, .inr (5, [.ref h_t_bytes, .int t_size])), (h_t_bytes, .inl (cI, 39, .inl a_t_bytes))] s.heap.size = A at hD ⊢
  have hA : ∀ q : Nat, s.heap.size ≤ q → A q := fun q h => by rw [← hAe]; exact Or.inr h
  have hS : va_S A s.heap s.heap [] := va_S.rf
  have hl := lv_entry ([.ref h_t, .int p0]) (n := 2) (Nat.le_of_ble_eq_true rfl)
  rw [lg_entry_eq]
  generalize (lg_sl ([.ref h_t, .int p0]) ++ List.replicate (2 - (lg_sl ([.ref h_t, .int p0])).length) Slot.unset).toArray = ls at hl ⊢
  have hl : lv_has ls 2 [(0, .ref h_t), (1, .int p0)] := hl
  have h := hF
  unfold F_X5_addPower at h
  refine lv_iload_n hx hb dX5_addPower_0 rfl (lv_at hl 1 rfl) ?_
  refine lv_bipush (v := (10 : Int32)) hx hb dX5_addPower_1 (by decide) ?_
  refine lv_icmp_lt (tgt := 14) hx hb dX5_addPower_3 (by decide) (fun c2 => ?_) (fun c2 => ?_)
  · have h := it_p h c2
    exact tJ_X5_addPower_14 hx hb hr hml hts hown hlocks hK hA a_t_bytes t_size _ _ _ hP hD hS (lv_sub hl [0, 1] rfl) h
  have h := it_n h c2
  refine lv_aload_n hx hb dX5_addPower_6 rfl (lv_at hl 0 rfl) ?_
  refine lv_iload_n hx hb dX5_addPower_7 rfl (lv_at hl 1 rfl) ?_
  refine lv_bipush (v := (10 : Int32)) hx hb dX5_addPower_8 (by decide) ?_
  refine lv_idiv hx hb dX5_addPower_10 (by decide) ?_
  obtain ⟨x3, hx3, h⟩ := bd_e h
  try dsimp only at h
  refine k_VvM (n := 1) (As := [.int (p0 / (10 : Int32))]) (rest := []) hx hb hml hown hts (c_X5_addFigure l G cI cJ cD cH s.heap.size h_t h_t_bytes t_size a_t_bytes (p0 / (10 : Int32)) (x3.1) (x3.2) hx3) gX5_addPower_X5_addFigure rfl rfl rfl (by decide +kernel) ⟨by first | exact Nat.le_of_ble_eq_true rfl | (simp only [headSpec]; omega), by first | exact Nat.le_of_ble_eq_true rfl | (simp only [headSpec]; omega)⟩ hK hP hD hS hA [0, 1] (by decide) rfl rfl (ci := 5) rfl rfl rfl rfl rfl hl.1 (Nat.le_of_ble_eq_true rfl) dX5_addPower_11 ⟨Nat.zero_le _, Nat.zero_le _⟩ [(h_t, .inr (5, [.ref h_t_bytes, .int (x3.2)])), (h_t_bytes, .inl (cI, 39, .inl (x3.1)))] [1, 2] 2 (by decide +kernel) rfl rfl rfl (fun hp3 H locs hP hD hS => ?_)
  exact tJ_X5_addPower_14 hx hb hr hml hts hown hlocks hK hA (x3.1) (x3.2) _ _ _ hP hD hS (lv_sub hl [0, 1] rfl) h
