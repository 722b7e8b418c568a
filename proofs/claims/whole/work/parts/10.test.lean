/-! X1_powerAt -/
noncomputable def F_X1_powerAt (a_t_powers : Nat → Int32) (p0 : Int32) : Option (Int32) :=
  if p0 < 0 then (some (0 : Int32)) else (if (8 : Int32) ≤ p0 then (some (0 : Int32)) else (ck p0 8 (some (a_t_powers p0.toNatClampNeg))))
theorem in_X1_powerAt_X1 : ∀ w ∈ wsX10, w ∈ wsX1_powerAt := mem_r _ [2, 3, 4, 5, 6] (by decide +kernel)
set_option maxHeartbeats 4000000 in
set_option maxRecDepth 100000 in
theorem c_X1_powerAt (l : Launch) (G : va_G) (cI cJ cD cH : ClassId) (sz : Nat) (h_t : Nat) (h_t_powers : Nat) (t_genus : Int32) (t_size : Int32) (t_limit : Int32) (t_tree : Int64) (a_t_powers : Nat → Int32) (p0 : Int32) (r0 : Int32) (hF : F_X1_powerAt a_t_powers p0 = some r0) : Met l yX1_powerAt wsX1_powerAt ({ frames := 0, cells := 0, slots := 0, locals := 0 }) (k_pre G (k_T cI cJ cD cH) [(h_t, .inr (1, [.int t_genus, .int t_size, .ref h_t_powers, .int t_limit, .long t_tree])), (h_t_powers, .inl (cI, 8, .inl a_t_powers))] sz [.ref h_t, .int p0]) (va_Qi (fun r (_ : Unit) => r = r0 ∧ True) (fun _ t => va_P G vwCl [(h_t, .inr (1, [.int t_genus, .int t_size, .ref h_t_powers, .int t_limit, .long t_tree])), (h_t_powers, .inl (cI, 8, .inl a_t_powers))] t.heap) (va_A [(h_t, .inr (1, [.int t_genus, .int t_size, .ref h_t_powers, .int t_limit, .long t_tree])), (h_t_powers, .inl (cI, 8, .inl a_t_powers))] sz)) 0 0 (va_A [(h_t, .inr (1, [.int t_genus, .int t_size, .ref h_t_powers, .int t_limit, .long t_tree])), (h_t_powers, .inl (cI, 8, .inl a_t_powers))] sz) := by
  refine Met.ofW (cc := cX1_powerAt) (maxL := 2) (ret := (some .int)) (by decide) rfl ?_
  intro p e s m args below meth c s₁ B hml hv
  obtain ⟨rfl, hsz, hP, hK, hD0⟩ := hv
  have hx := B.exec
  have hb := B.bytes
  have hr := B.returns
  have hts := atoms_spec (ws := wsX1_powerAt) B.pre
  have hown : s.vm.findClass RX1 = some m.cls := findClass_of_methodNamed B.named
  have hlocks := B.notSynchronized
  subst hsz
  have hD := hD0.self (sz := s.heap.size)
  generalize hAe : va_A [(h_t, .inr (1, [.int t_genus, .int t_size, .ref h_t_powers, .int t_limit, .long t_tree])), (h_t_powers, .inl (cI, 8, .inl a_t_powers))] s.heap.size = A at hD ⊢
  have hA : ∀ q : Nat, s.heap.size ≤ q → A q := fun q h => by rw [← hAe]; exact Or.inr h
  have hS : va_S A s.heap s.heap [] := va_S.rf
  have hl := lv_entry ([.ref h_t, .int p0]) (n := 2) (Nat.le_of_ble_eq_true rfl)
  rw [lg_entry_eq]
  generalize (lg_sl ([.ref h_t, .int p0]) ++ List.replicate (2 - (lg_sl ([.ref h_t, .int p0])).length) Slot.unset).toArray = ls at hl ⊢
  have hl : lv_has ls 2 [(0, .ref h_t), (1, .int p0)] := hl
  have hinX1 : ∀ w ∈ wsX10, w ∈ wsX1_powerAt := in_X1_powerAt_X1
  have h := hF
  unfold F_X1_powerAt at h
  refine lv_iload_n hx hb dX1_powerAt_0 rfl (lv_at hl 1 rfl) ?_
  refine lv_if_lt (tgt := 19) hx hb dX1_powerAt_1 (by decide) (fun c1 => ?_) (fun c1 => ?_)
  · have h := it_p h c1
    refine lv_iconst (v := (0 : Int32)) hx hb dX1_powerAt_19 (by decide) ?_
    cases h
    exact k_iret hx hb hr hlocks hP hS rfl dX1_powerAt_20
  have h := it_n h c1
  refine lv_iload_n hx hb dX1_powerAt_4 rfl (lv_at hl 1 rfl) ?_
  refine lv_bipush (v := (8 : Int32)) hx hb dX1_powerAt_5 (by decide) ?_
  refine lv_icmp_ge (tgt := 19) hx hb dX1_powerAt_7 (by decide) (fun c2 => ?_) (fun c2 => ?_)
  · have h := it_p h c2
    refine lv_iconst (v := (0 : Int32)) hx hb dX1_powerAt_19 (by decide) ?_
    cases h
    exact k_iret hx hb hr hlocks hP hS rfl dX1_powerAt_20
  have h := it_n h c2
  refine lv_aload_n hx hb dX1_powerAt_10 rfl (lv_at hl 0 rfl) ?_
  refine va_get (D := G) (ci := 1) (v := .ref h_t_powers) (C := RX1) (T := TX1) (N := 5) hx hb hts hinX1 hown hK hP 0 rfl rfl 2 (by decide) (hts (.fieldLink RX1 9 "MarkedCurves$Desk" "powers" "[I") (List.mem_of_getElem? (i := 1) (by decide +kernel))) (fun _ h9 => h9) rfl dX1_powerAt_11 ?_
  refine lv_iload_n hx hb dX1_powerAt_14 rfl (lv_at hl 1 rfl) ?_
  obtain ⟨hn3, h⟩ := ck_e h
  refine va_iald hx hb hK hP 1 0 rfl rfl hn3 dX1_powerAt_15 ?_
  refine lv_goto (tgt := 20) hx hb dX1_powerAt_16 (by decide) ?_
  cases h
  exact k_iret hx hb hr hlocks hP hS rfl dX1_powerAt_20

/-! X1_hasMark -/
noncomputable def F_X1_hasMark (t_size : Int32) (p0 : Int32) : Option (Int32) :=
  if p0 < 0 then (some (0 : Int32)) else (if t_size ≤ p0 then (some (0 : Int32)) else (some (1 : Int32)))
theorem in_X1_hasMark_X1 : ∀ w ∈ wsX10, w ∈ wsX1_hasMark := mem_r _ [2, 3, 4, 5, 6] (by decide +kernel)
set_option maxHeartbeats 4000000 in
set_option maxRecDepth 100000 in
theorem c_X1_hasMark (l : Launch) (G : va_G) (cI cJ cD cH : ClassId) (sz : Nat) (h_t : Nat) (h_t_powers : Nat) (t_genus : Int32) (t_size : Int32) (t_limit : Int32) (t_tree : Int64) (p0 : Int32) (r0 : Int32) (hF : F_X1_hasMark t_size p0 = some r0) : Met l yX1_hasMark wsX1_hasMark ({ frames := 0, cells := 0, slots := 0, locals := 0 }) (k_pre G (k_T cI cJ cD cH) [(h_t, .inr (1, [.int t_genus, .int t_size, .ref h_t_powers, .int t_limit, .long t_tree]))] sz [.ref h_t, .int p0]) (va_Qi (fun r (_ : Unit) => r = r0 ∧ narrow .boolean (.int r0) = .int r0) (fun _ t => va_P G vwCl [(h_t, .inr (1, [.int t_genus, .int t_size, .ref h_t_powers, .int t_limit, .long t_tree]))] t.heap) (va_A [(h_t, .inr (1, [.int t_genus, .int t_size, .ref h_t_powers, .int t_limit, .long t_tree]))] sz)) 0 0 (va_A [(h_t, .inr (1, [.int t_genus, .int t_size, .ref h_t_powers, .int t_limit, .long t_tree]))] sz) := by
  refine Met.ofW (cc := cX1_hasMark) (maxL := 2) (ret := (some .boolean)) (by decide) rfl ?_
  intro p e s m args below meth c s₁ B hml hv
  obtain ⟨rfl, hsz, hP, hK, hD0⟩ := hv
  have hx := B.exec
  have hb := B.bytes
  have hr := B.returns
  have hts := atoms_spec (ws := wsX1_hasMark) B.pre
  have hown : s.vm.findClass RX1 = some m.cls := findClass_of_methodNamed B.named
  have hlocks := B.notSynchronized
  subst hsz
  have hD := hD0.self (sz := s.heap.size)
  generalize hAe : va_A [(h_t, .inr (1, [.int t_genus, .int t_size, .ref h_t_powers, .int t_limit, .long t_tree]))] s.heap.size = A at hD ⊢
  have hA : ∀ q : Nat, s.heap.size ≤ q → A q := fun q h => by rw [← hAe]; exact Or.inr h
  have hS : va_S A s.heap s.heap [] := va_S.rf
  have hl := lv_entry ([.ref h_t, .int p0]) (n := 2) (Nat.le_of_ble_eq_true rfl)
  rw [lg_entry_eq]
  generalize (lg_sl ([.ref h_t, .int p0]) ++ List.replicate (2 - (lg_sl ([.ref h_t, .int p0])).length) Slot.unset).toArray = ls at hl ⊢
  have hl : lv_has ls 2 [(0, .ref h_t), (1, .int p0)] := hl
  have hinX1 : ∀ w ∈ wsX10, w ∈ wsX1_hasMark := in_X1_hasMark_X1
  have h := hF
  unfold F_X1_hasMark at h
  refine lv_iload_n hx hb dX1_hasMark_0 rfl (lv_at hl 1 rfl) ?_
  refine lv_if_lt (tgt := 16) hx hb dX1_hasMark_1 (by decide) (fun c1 => ?_) (fun c1 => ?_)
  · have h := it_p h c1
    refine lv_iconst (v := (0 : Int32)) hx hb dX1_hasMark_16 (by decide) ?_
    cases h
    exact k_zret hx hb hr hlocks hP hS rfl rfl dX1_hasMark_17
  have h := it_n h c1
  refine lv_iload_n hx hb dX1_hasMark_4 rfl (lv_at hl 1 rfl) ?_
  refine lv_aload_n hx hb dX1_hasMark_5 rfl (lv_at hl 0 rfl) ?_
  refine va_get (D := G) (ci := 1) (v := .int t_size) (C := RX1) (T := TX1) (N := 5) hx hb hts hinX1 hown hK hP 0 rfl rfl 1 (by decide) (hts (.fieldLink RX1 22 "MarkedCurves$Desk" "size" "I") (List.mem_of_getElem? (i := 1) (by decide +kernel))) (fun _ h9 => h9) rfl dX1_hasMark_6 ?_
  refine lv_icmp_ge (tgt := 16) hx hb dX1_hasMark_9 (by decide) (fun c2 => ?_) (fun c2 => ?_)
  · have h := it_p h c2
    refine lv_iconst (v := (0 : Int32)) hx hb dX1_hasMark_16 (by decide) ?_
    cases h
    exact k_zret hx hb hr hlocks hP hS rfl rfl dX1_hasMark_17
  have h := it_n h c2
  refine lv_iconst (v := (1 : Int32)) hx hb dX1_hasMark_12 (by decide) ?_
  refine lv_goto (tgt := 17) hx hb dX1_hasMark_13 (by decide) ?_
  cases h
  exact k_zret hx hb hr hlocks hP hS rfl rfl dX1_hasMark_17
