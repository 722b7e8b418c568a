/-! X1_powerAt -/
noncomputable def F_X1_powerAt (a_t_powers : Nat → Int32) (p0 : Int32) : Option (Int32) :=
  if p0 < 0 then (some (0 : Int32)) else (if (8 : Int32) ≤ p0 then (some (0 : Int32)) else (ck p0 8 (some (a_t_powers p0.toNatClampNeg))))
theorem in_X1_powerAt_X1 : ∀ w ∈ wsX10, w ∈ wsX1_powerAt := mem_r _ [2, 3, 4, 5, 6] (by decide +kernel)
set_option maxHeartbeats 400000 in
set_option maxRecDepth 100000 in
theorem c_X1_powerAt (l : Launch) (G : va_G) (cI cJ cD cH : ClassId) (sz : Nat) (h_t : Nat) (h_t_powers : Nat) (t_genus : Int32) (t_size : Int32) (t_limit : Int32) (t_tree : Int64) (a_t_powers : Nat → Int32) (p0 : Int32) (r0 : Int32) (hF : F_X1_powerAt a_t_powers p0 = some r0) : Met l yX1_powerAt wsX1_powerAt ({ frames := 0, cells := 0, slots := 0, locals := 0 }) (k_pre G (k_T cI cJ cD cH) [(h_t, .inr (1, [.int t_genus, .int t_size, .ref h_t_powers, .int t_limit, .long t_tree])), (h_t_powers, .inl (cI, 8, .inl a_t_powers))] sz [.ref h_t, .int p0]) (va_Qi (fun r (_ : Unit) => r = r0 ∧ True) (fun _ t => va_P G vwCl [(h_t, .inr (1, [.int t_genus, .int t_size, .ref h_t_powers, .int t_limit, .long t_tree])), (h_t_powers, .inl (cI, 8, .inl a_t_powers))] t.heap) (va_A [(h_t, .inr (1, [.int t_genus, .int t_size, .ref h_t_powers, .int t_limit, .long t_tree])), (h_t_powers, .inl (cI, 8, .inl a_t_powers))] sz)) 0 0 (va_A [(h_t, .inr (1, [.int t_genus, .int t_size, .ref h_t_powers, .int t_limit, .long t_tree])), (h_t_powers, .inl (cI, 8, .inl a_t_powers))] sz) := by
  refine Met.ofW (cc := cX1_powerAt) (maxL := 2) (ret := (some .int)) (by decide) rfl ?_
  intro p e s m args below meth c s₁ B hml hv
  obtain ⟨rfl, hsz, hP, hK, hD0⟩ := hv
  have hx := B.exec
  have hb := B.bytes
  have hr := B.returns
  have hts := atoms_spec (ws := wsX1_powerAt) B.pre
  have hown : s.vm.findClass RX1 = some m.cls := findClass_of_methodNamed B.named
  have hlocks := B.notSynchronized
  subst hsz
  have hD := hD0.self (sz := s.heap.size)
  generalize hAe : va_A [(h_t, .inr (1, [.int t_genus, .int t_size, .ref h_t_powers, .int t_limit, .long t_tree])), (h_t_powers, .inl (cI, 8, .inl a_t_powers))] s.heap.size = A at hD ⊢
  have hA : ∀ q : Nat, s.heap.size ≤ q → A q := fun q h => by rw [← hAe]; exact Or.inr h
  have hS : va_S A s.heap s.heap [] := va_S.rf
  have hl := lv_entry ([.ref h_t, .int p0]) (n := 2) (Nat.le_of_ble_eq_true rfl)
  rw [lg_entry_eq]
  generalize (lg_sl ([.ref h_t, .int p0]) ++ List.replicate (2 - (lg_sl ([.ref h_t, .int p0])).length) Slot.unset).toArray = ls at hl ⊢
  have hl : lv_has ls 2 [(0, .ref h_t), (1, .int p0)] := hl
  have hinX1 : ∀ w ∈ wsX10, w ∈ wsX1_powerAt := in_X1_powerAt_X1
  have h := hF
  unfold F_X1_powerAt at h
  refine lv_iload_n hx hb dX1_powerAt_0 rfl (lv_at hl 1 rfl) ?_
  refine lv_if_lt (tgt := 19) hx hb dX1_powerAt_1 (by decide) (fun c1 => ?_) (fun c1 => ?_)
  · have h := it_p h c1
    refine lv_iconst (v := (0 : Int32)) hx hb dX1_powerAt_19 (by decide) ?_
    cases h
    exact k_iret hx hb hr hlocks hP hS rfl dX1_powerAt_20
  have h := it_n h c1
  refine lv_iload_n hx hb dX1_powerAt_4 rfl (lv_at hl 1 rfl) ?_
  refine lv_bipush (v := (8 : Int32)) hx hb dX1_powerAt_5 (by decide) ?_
  refine lv_icmp_ge (tgt := 19) hx hb dX1_powerAt_7 (by decide) (fun c2 => ?_) (fun c2 => ?_)
  · have h := it_p h c2
    refine lv_iconst (v := (0 : Int32)) hx hb dX1_powerAt_19 (by decide) ?_
    cases h
    exact k_iret hx hb hr hlocks hP hS rfl dX1_powerAt_20
  have h := it_n h c2
  refine lv_aload_n hx hb dX1_powerAt_10 rfl (lv_at hl 0 rfl) ?_
  refine va_get (D := G) (ci := 1) (v := .ref h_t_powers) (C := RX1) (T := TX1) (N := 5) hx hb hts hinX1 hown hK hP 0 rfl rfl 2 (by decide) (hts (.fieldLink RX1 9 "MarkedCurves$Desk" "powers" "[I") (List.mem_of_getElem? (i := 1) (by decide +kernel))) (fun _ h9 => h9) rfl dX1_powerAt_11 ?_
  refine lv_iload_n hx hb dX1_powerAt_14 rfl (lv_at hl 1 rfl) ?_
  obtain ⟨hn3, h⟩ := ck_e h
  refine va_iald hx hb hK hP 1 0 rfl rfl hn3 dX1_powerAt_15 ?_
  refine lv_goto (tgt := 20) hx hb dX1_powerAt_16 (by decide) ?_
  cases h
  exact k_iret hx hb hr hlocks hP hS rfl dX1_powerAt_20

/-! X1_setPower -/
noncomputable def F_X1_setPower (a_t_powers : Nat → Int32) (p0 : Int32) (p1 : Int32) : Option ((Nat → Int32)) :=
  if p0 < 0 then (some a_t_powers) else (if (8 : Int32) ≤ p0 then (some a_t_powers) else (ck p0 8 (some (upd a_t_powers p0.toNatClampNeg p1))))
theorem in_X1_setPower_X1 : ∀ w ∈ wsX10, w ∈ wsX1_setPower := mem_r _ [2, 3, 4, 5, 6] (by decide +kernel)
set_option maxHeartbeats 400000 in
set_option maxRecDepth 100000 in
theorem c_X1_setPower (l : Launch) (G : va_G) (cI cJ cD cH : ClassId) (sz : Nat) (h_t : Nat) (h_t_powers : Nat) (t_genus : Int32) (t_size : Int32) (t_limit : Int32) (t_tree : Int64) (a_t_powers : Nat → Int32) (p0 : Int32) (p1 : Int32) (w0 : Nat → Int32) (hF : F_X1_setPower a_t_powers p0 p1 = some w0) : Met l yX1_setPower wsX1_setPower ({ frames := 0, cells := 0, slots := 0, locals := 0 }) (k_pre G (k_T cI cJ cD cH) [(h_t, .inr (1, [.int t_genus, .int t_size, .ref h_t_powers, .int t_limit, .long t_tree])), (h_t_powers, .inl (cI, 8, .inl a_t_powers))] sz [.ref h_t, .int p0, .int p1]) (va_Qv (fun (_ : Unit) => True) (fun _ t => va_P G vwCl [(h_t, .inr (1, [.int t_genus, .int t_size, .ref h_t_powers, .int t_limit, .long t_tree])), (h_t_powers, .inl (cI, 8, .inl w0))] t.heap) (va_A [(h_t, .inr (1, [.int t_genus, .int t_size, .ref h_t_powers, .int t_limit, .long t_tree])), (h_t_powers, .inl (cI, 8, .inl a_t_powers))] sz)) 0 0 (va_A [(h_t, .inr (1, [.int t_genus, .int t_size, .ref h_t_powers, .int t_limit, .long t_tree])), (h_t_powers, .inl (cI, 8, .inl a_t_powers))] sz) := by
  refine Met.ofW (cc := cX1_setPower) (maxL := 3) (ret := none) (by decide) rfl ?_
  intro p e s m args below meth c s₁ B hml hv
  obtain ⟨rfl, hsz, hP, hK, hD0⟩ := hv
  have hx := B.exec
  have hb := B.bytes
  have hr := B.returns
  have hts := atoms_spec (ws := wsX1_setPower) B.pre
  have hown : s.vm.findClass RX1 = some m.cls := findClass_of_methodNamed B.named
  have hlocks := B.notSynchronized
  subst hsz
  have hD := hD0.self (sz := s.heap.size)
  generalize hAe : va_A [(h_t, .inr (1, [.int t_genus, .int t_size, .ref h_t_powers, .int t_limit, .long t_tree])), (h_t_powers, .inl (cI, 8, .inl a_t_powers))] s.heap.size = A at hD ⊢
  have hA : ∀ q : Nat, s.heap.size ≤ q → A q := fun q h => by rw [← hAe]; exact Or.inr h
  have hS : va_S A s.heap s.heap [] := va_S.rf
  have hl := lv_entry ([.ref h_t, .int p0, .int p1]) (n := 3) (Nat.le_of_ble_eq_true rfl)
  rw [lg_entry_eq]
  generalize (lg_sl ([.ref h_t, .int p0, .int p1]) ++ List.replicate (3 - (lg_sl ([.ref h_t, .int p0, .int p1])).length) Slot.unset).toArray = ls at hl ⊢
  have hl : lv_has ls 3 [(0, .ref h_t), (1, .int p0), (2, .int p1)] := hl
  have hinX1 : ∀ w ∈ wsX10, w ∈ wsX1_setPower := in_X1_setPower_X1
  have h := hF
  unfold F_X1_setPower at h
  refine lv_iload_n hx hb dX1_setPower_0 rfl (lv_at hl 1 rfl) ?_
  refine lv_if_lt (tgt := 17) hx hb dX1_setPower_1 (by decide) (fun c1 => ?_) (fun c1 => ?_)
  · have h := it_p h c1
    cases h
    exact k_vret hx hb hr hlocks hP hS dX1_setPower_17
  have h := it_n h c1
  refine lv_iload_n hx hb dX1_setPower_4 rfl (lv_at hl 1 rfl) ?_
  refine lv_bipush (v := (8 : Int32)) hx hb dX1_setPower_5 (by decide) ?_
  refine lv_icmp_ge (tgt := 17) hx hb dX1_setPower_7 (by decide) (fun c2 => ?_) (fun c2 => ?_)
  · have h := it_p h c2
    cases h
    exact k_vret hx hb hr hlocks hP hS dX1_setPower_17
  have h := it_n h c2
  refine lv_aload_n hx hb dX1_setPower_10 rfl (lv_at hl 0 rfl) ?_
  refine va_get (D := G) (ci := 1) (v := .ref h_t_powers) (C := RX1) (T := TX1) (N := 5) hx hb hts hinX1 hown hK hP 0 rfl rfl 2 (by decide) (hts (.fieldLink RX1 9 "MarkedCurves$Desk" "powers" "[I") (List.mem_of_getElem? (i := 1) (by decide +kernel))) (fun _ h9 => h9) rfl dX1_setPower_11 ?_
  refine lv_iload_n hx hb dX1_setPower_14 rfl (lv_at hl 1 rfl) ?_
  refine lv_iload_n hx hb dX1_setPower_15 rfl (lv_at hl 2 rfl) ?_
  obtain ⟨hn3, h⟩ := ck_e h
  refine va_iast hx hb hK hP hD hS 1 0 rfl rfl hn3 dX1_setPower_16 (fun H locs hP hD hS => ?_)
  have hP : va_P G vwCl [(h_t, .inr (1, [.int t_genus, .int t_size, .ref h_t_powers, .int t_limit, .long t_tree])), (h_t_powers, .inl (cI, 8, .inl (upd a_t_powers p0.toNatClampNeg p1)))] H := hP
  have hD : va_D A [(h_t, .inr (1, [.int t_genus, .int t_size, .ref h_t_powers, .int t_limit, .long t_tree])), (h_t_powers, .inl (cI, 8, .inl (upd a_t_powers p0.toNatClampNeg p1)))] := hD
  cases h
  exact k_vret hx hb hr hlocks hP hS dX1_setPower_17

/-! X1_swap -/
noncomputable def F_X1_swap (a_t_powers : Nat → Int32) (p0 : Int32) (p1 : Int32) : Option ((Nat → Int32)) :=
  bd (F_X1_powerAt a_t_powers p0) (fun x1 => bd (F_X1_powerAt a_t_powers p1) (fun x2 => bd (F_X1_setPower a_t_powers p0 x2) (fun x3 => bd (F_X1_setPower x3 p1 x1) (fun x4 => some x4))))
set_option maxHeartbeats 400000 in
set_option maxRecDepth 100000 in
theorem c_X1_swap (l : Launch) (G : va_G) (cI cJ cD cH : ClassId) (sz : Nat) (h_t : Nat) (h_t_powers : Nat) (t_genus : Int32) (t_size : Int32) (t_limit : Int32) (t_tree : Int64) (a_t_powers : Nat → Int32) (p0 : Int32) (p1 : Int32) (w0 : Nat → Int32) (hF : F_X1_swap a_t_powers p0 p1 = some w0) : Met l yX1_swap wsX1_swap ({ frames := 1, cells := 0, slots := 0, locals := 22 }) (k_pre G (k_T cI cJ cD cH) [(h_t, .inr (1, [.int t_genus, .int t_size, .ref h_t_powers, .int t_limit, .long t_tree])), (h_t_powers, .inl (cI, 8, .inl a_t_powers))] sz [.ref h_t, .int p0, .int p1]) (va_Qv (fun (_ : Unit) => True) (fun _ t => va_P G vwCl [(h_t, .inr (1, [.int t_genus, .int t_size, .ref h_t_powers, .int t_limit, .long t_tree])), (h_t_powers, .inl (cI, 8, .inl w0))] t.heap) (va_A [(h_t, .inr (1, [.int t_genus, .int t_size, .ref h_t_powers, .int t_limit, .long t_tree])), (h_t_powers, .inl (cI, 8, .inl a_t_powers))] sz)) 0 0 (va_A [(h_t, .inr (1, [.int t_genus, .int t_size, .ref h_t_powers, .int t_limit, .long t_tree])), (h_t_powers, .inl (cI, 8, .inl a_t_powers))] sz) := by
  refine Met.ofW (cc := cX1_swap) (maxL := 4) (ret := none) (by decide) rfl ?_
  intro p e s m args below meth c s₁ B hml hv
  obtain ⟨rfl, hsz, hP, hK, hD0⟩ := hv
  have hx := B.exec
  have hb := B.bytes
  have hr := B.returns
  have hts := atoms_spec (ws := wsX1_swap) B.pre
  have hown : s.vm.findClass RX1 = some m.cls := findClass_of_methodNamed B.named
  have hlocks := B.notSynchronized
  subst hsz
  have hD := hD0.self (sz := s.heap.size)
  generalize hAe : va_A [(h_t, .inr (1, [.int t_genus, .int t_size, .ref h_t_powers, .int t_limit, .long t_tree])), (h_t_powers, .inl (cI, 8, .inl a_t_powers))] s.heap.size = A at hD ⊢
  have hA : ∀ q : Nat, s.heap.size ≤ q → A q := fun q h => by rw [← hAe]; exact Or.inr h
  have hS : va_S A s.heap s.heap [] := va_S.rf
  have hl := lv_entry ([.ref h_t, .int p0, .int p1]) (n := 4) (Nat.le_of_ble_eq_true rfl)
  rw [lg_entry_eq]
  generalize (lg_sl ([.ref h_t, .int p0, .int p1]) ++ List.replicate (4 - (lg_sl ([.ref h_t, .int p0, .int p1])).length) Slot.unset).toArray = ls at hl ⊢
  have hl : lv_has ls 4 [(0, .ref h_t), (1, .int p0), (2, .int p1)] := hl
  have h := hF
  unfold F_X1_swap at h
  refine lv_aload_n hx hb dX1_swap_0 rfl (lv_at hl 0 rfl) ?_
  refine lv_iload_n hx hb dX1_swap_1 rfl (lv_at hl 1 rfl) ?_
  obtain ⟨x1, hx1, h⟩ := bd_e h
  dsimp only at h
  refine k_Vi (As := [.int p0]) (rest := []) hx hb hml hown hts (c_X1_powerAt l G cI cJ cD cH H.size h_t h_t_powers t_genus t_size t_limit t_tree a_t_powers p0 x1 hx1) gX1_swap_X1_powerAt rfl rfl rfl (by decide +kernel) ⟨by first | exact Nat.le_of_ble_eq_true rfl | (simp only [headSpec]; omega), by first | exact Nat.le_of_ble_eq_true rfl | (simp only [headSpec]; omega)⟩ hK hP hD hS hA [0, 1] (by decide) rfl rfl (ci := 1) rfl rfl rfl rfl rfl hl.1 (Nat.le_of_ble_eq_true rfl) dX1_swap_2 ⟨Nat.zero_le _, Nat.zero_le _⟩ [(h_t, .inr (1, [.int t_genus, .int t_size, .ref h_t_powers, .int t_limit, .long t_tree])), (h_t_powers, .inl (cI, 8, .inl a_t_powers))] rfl rfl (fun hp1 H locs hP hD hS => ?_)
  refine lv_istore_n (lv' := [(3, .int x1), (0, .ref h_t), (1, .int p0), (2, .int p1)]) hx hb dX1_swap_5 rfl hl (by decide) rfl (fun ls hl => ?_)
  refine lv_aload_n hx hb dX1_swap_6 rfl (lv_at hl 1 rfl) ?_
  refine lv_iload_n hx hb dX1_swap_7 rfl (lv_at hl 2 rfl) ?_
  refine lv_aload_n hx hb dX1_swap_8 rfl (lv_at hl 1 rfl) ?_
  refine lv_iload_n hx hb dX1_swap_9 rfl (lv_at hl 3 rfl) ?_
  obtain ⟨x2, hx2, h⟩ := bd_e h
  dsimp only at h
  refine k_Vi (As := [.int p1]) (rest := [.int p0, .ref h_t]) hx hb hml hown hts (c_X1_powerAt l G cI cJ cD cH H.size h_t h_t_powers t_genus t_size t_limit t_tree a_t_powers p1 x2 hx2) gX1_swap_X1_powerAt rfl rfl rfl (by decide +kernel) ⟨by first | exact Nat.le_of_ble_eq_true rfl | (simp only [headSpec]; omega), by first | exact Nat.le_of_ble_eq_true rfl | (simp only [headSpec]; omega)⟩ hK hP hD hS hA [0, 1] (by decide) rfl rfl (ci := 1) rfl rfl rfl rfl rfl hl.1 (Nat.le_of_ble_eq_true rfl) dX1_swap_10 ⟨Nat.zero_le _, Nat.zero_le _⟩ [(h_t, .inr (1, [.int t_genus, .int t_size, .ref h_t_powers, .int t_limit, .long t_tree])), (h_t_powers, .inl (cI, 8, .inl a_t_powers))] rfl rfl (fun hp2 H locs hP hD hS => ?_)
  obtain ⟨x3, hx3, h⟩ := bd_e h
  dsimp only at h
  refine k_Vv (As := [.int p0, .int x2]) (rest := []) hx hb hml hown hts (c_X1_setPower l G cI cJ cD cH H.size h_t h_t_powers t_genus t_size t_limit t_tree a_t_powers p0 x2 x3 hx3) gX1_swap_X1_setPower rfl rfl rfl (by decide +kernel) ⟨by first | exact Nat.le_of_ble_eq_true rfl | (simp only [headSpec]; omega), by first | exact Nat.le_of_ble_eq_true rfl | (simp only [headSpec]; omega)⟩ hK hP hD hS hA [0, 1] (by decide) rfl rfl (ci := 1) rfl rfl rfl rfl rfl hl.1 (Nat.le_of_ble_eq_true rfl) dX1_swap_13 ⟨Nat.zero_le _, Nat.zero_le _⟩ [(h_t, .inr (1, [.int t_genus, .int t_size, .ref h_t_powers, .int t_limit, .long t_tree])), (h_t_powers, .inl (cI, 8, .inl x3))] rfl rfl (fun hp3 H locs hP hD hS => ?_)
  refine lv_aload_n hx hb dX1_swap_16 rfl (lv_at hl 1 rfl) ?_
  refine lv_iload_n hx hb dX1_swap_17 rfl (lv_at hl 3 rfl) ?_
  refine lv_iload_n hx hb dX1_swap_18 rfl (lv_at hl 0 rfl) ?_
  obtain ⟨x4, hx4, h⟩ := bd_e h
  dsimp only at h
  refine k_Vv (As := [.int p1, .int x1]) (rest := []) hx hb hml hown hts (c_X1_setPower l G cI cJ cD cH H.size h_t h_t_powers t_genus t_size t_limit t_tree x3 p1 x1 x4 hx4) gX1_swap_X1_setPower rfl rfl rfl (by decide +kernel) ⟨by first | exact Nat.le_of_ble_eq_true rfl | (simp only [headSpec]; omega), by first | exact Nat.le_of_ble_eq_true rfl | (simp only [headSpec]; omega)⟩ hK hP hD hS hA [0, 1] (by decide) rfl rfl (ci := 1) rfl rfl rfl rfl rfl hl.1 (Nat.le_of_ble_eq_true rfl) dX1_swap_19 ⟨Nat.zero_le _, Nat.zero_le _⟩ [(h_t, .inr (1, [.int t_genus, .int t_size, .ref h_t_powers, .int t_limit, .long t_tree])), (h_t_powers, .inl (cI, 8, .inl x4))] rfl rfl (fun hp4 H locs hP hD hS => ?_)
  cases h
  exact k_vret hx hb hr hlocks hP hS dX1_swap_22
