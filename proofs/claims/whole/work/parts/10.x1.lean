/-! X1_copyFrom -/
noncomputable def K_X1_copyFrom_18_42 (p0_genus : Int32) (p0_size : Int32) (p0_limit : Int32) (p0_tree : Int64) (vK18_42_0 : Nat → Int32) : Option ((Nat → Int32) × Int32 × Int32 × Int32 × Int64) :=
  some (vK18_42_0, p0_genus, p0_size, p0_limit, p0_tree)
noncomputable def B_X1_copyFrom_18 (a_p0_powers : Nat → Int32) (kk18_42 : (Nat → Int32) → Option ((Nat → Int32) × Int32 × Int32 × Int32 × Int64)) (vL18_0 : Nat → Int32) (vL18_1 : Int32) (ag18 : (Nat → Int32) → Int32 → Option ((Nat → Int32) × Int32 × Int32 × Int32 × Int64)) : Option ((Nat → Int32) × Int32 × Int32 × Int32 × Int64) :=
  if (8 : Int32) ≤ vL18_1 then (kk18_42 vL18_0) else (ck vL18_1 8 (ck vL18_1 8 (ag18 (upd vL18_0 vL18_1.toNatClampNeg (a_p0_powers vL18_1.toNatClampNeg)) (vL18_1 + (1 : Int32)))))
noncomputable def F_X1_copyFrom (p0_genus : Int32) (p0_size : Int32) (p0_limit : Int32) (p0_tree : Int64) (a_t_powers : Nat → Int32) (a_p0_powers : Nat → Int32) : Option ((Nat → Int32) × Int32 × Int32 × Int32 × Int64) :=
  wq2 (B_X1_copyFrom_18 a_p0_powers (K_X1_copyFrom_18_42 p0_genus p0_size p0_limit p0_tree)) FU a_t_powers (0 : Int32)
theorem in_X1_copyFrom_X1 : ∀ w ∈ wsX10, w ∈ wsX1_copyFrom := mem_r _ [6, 7, 8, 9, 10] (by decide +kernel)
set_option maxHeartbeats 4000000 in
set_option maxRecDepth 100000 in
theorem c_X1_copyFrom (l : Launch) (G : va_G) (cI cJ cD cH : ClassId) (sz : Nat) (h_t : Nat) (h_p0 : Nat) (h_t_powers : Nat) (h_p0_powers : Nat) (t_genus : Int32) (t_size : Int32) (t_limit : Int32) (t_tree : Int64) (p0_genus : Int32) (p0_size : Int32) (p0_limit : Int32) (p0_tree : Int64) (a_t_powers : Nat → Int32) (a_p0_powers : Nat → Int32) (w0 : Nat → Int32) (w1 : Int32) (w2 : Int32) (w3 : Int32) (w4 : Int64) (hF : F_X1_copyFrom p0_genus p0_size p0_limit p0_tree a_t_powers a_p0_powers = some (w0, w1, w2, w3, w4)) : Met l yX1_copyFrom wsX1_copyFrom ({ frames := 0, cells := 0, slots := 0, locals := 0 }) (k_pre G (k_T cI cJ cD cH) [(h_t, .inr (1, [.int t_genus, .int t_size, .ref h_t_powers, .int t_limit, .long t_tree])), (h_p0, .inr (1, [.int p0_genus, .int p0_size, .ref h_p0_powers, .int p0_limit, .long p0_tree])), (h_t_powers, .inl (cI, 8, .inl a_t_powers)), (h_p0_powers, .inl (cI, 8, .inl a_p0_powers))] sz [.ref h_t, .ref h_p0]) (va_Qv (fun (_ : Unit) => True) (fun _ t => va_P G vwCl [(h_t, .inr (1, [.int w1, .int w2, .ref h_t_powers, .int w3, .long w4])), (h_p0, .inr (1, [.int p0_genus, .int p0_size, .ref h_p0_powers, .int p0_limit, .long p0_tree])), (h_t_powers, .inl (cI, 8, .inl w0)), (h_p0_powers, .inl (cI, 8, .inl a_p0_powers))] t.heap) (va_A [(h_t, .inr (1, [.int t_genus, .int t_size, .ref h_t_powers, .int t_limit, .long t_tree])), (h_p0, .inr (1, [.int p0_genus, .int p0_size, .ref h_p0_powers, .int p0_limit, .long p0_tree])), (h_t_powers, .inl (cI, 8, .inl a_t_powers)), (h_p0_powers, .inl (cI, 8, .inl a_p0_powers))] sz)) 0 0 (va_A [(h_t, .inr (1, [.int t_genus, .int t_size, .ref h_t_powers, .int t_limit, .long t_tree])), (h_p0, .inr (1, [.int p0_genus, .int p0_size, .ref h_p0_powers, .int p0_limit, .long p0_tree])), (h_t_powers, .inl (cI, 8, .inl a_t_powers)), (h_p0_powers, .inl (cI, 8, .inl a_p0_powers))] sz) := by
  refine Met.ofW (cc := cX1_copyFrom) (maxL := 3) (ret := none) (by decide) rfl ?_
  intro p e s m args below meth c s₁ B hml hv
  obtain ⟨rfl, hsz, hP, hK, hD0⟩ := hv
  have hx := B.exec
  have hb := B.bytes
  have hr := B.returns
  have hts := atoms_spec (ws := wsX1_copyFrom) B.pre
  have hown : s.vm.findClass RX1 = some m.cls := findClass_of_methodNamed B.named
  have hlocks := B.notSynchronized
  subst hsz
  have hD := hD0.self (sz := s.heap.size)
  generalize hAe : va_A [(h_t, .inr (1, [.int t_genus, .int t_size, .ref h_t_powers, .int t_limit, .long t_tree])), (h_p0, .inr (1, [.int p0_genus, .int p0_size, .ref h_p0_powers, .int p0_limit, .long p0_tree])), (h_t_powers, .inl (cI, 8, .inl a_t_powers)), (h_p0_powers, .inl (cI, 8, .inl a_p0_powers))] s.heap.size = A at hD ⊢
  have hA : ∀ q : Nat, s.heap.size ≤ q → A q := fun q h => by rw [← hAe]; exact Or.inr h
  have hS : va_S A s.heap s.heap [] := va_S.rf
  have hl := lv_entry ([.ref h_t, .ref h_p0]) (n := 3) (Nat.le_of_ble_eq_true rfl)
  rw [lg_entry_eq]
  generalize (lg_sl ([.ref h_t, .ref h_p0]) ++ List.replicate (3 - (lg_sl ([.ref h_t, .ref h_p0])).length) Slot.unset).toArray = ls at hl ⊢
  have hl : lv_has ls 3 [(0, .ref h_t), (1, .ref h_p0)] := hl
  have hinX1 : ∀ w ∈ wsX10, w ∈ wsX1_copyFrom := in_X1_copyFrom_X1
  have h := hF
  unfold F_X1_copyFrom at h
  refine lv_aload_n hx hb dX1_copyFrom_0 rfl (lv_at hl 0 rfl) ?_
  refine lv_aload_n hx hb dX1_copyFrom_1 rfl (lv_at hl 1 rfl) ?_
  refine va_get (D := G) (ci := 1) (v := .int p0_genus) (C := RX1) (T := TX1) (N := 5) hx hb hts hinX1 hown hK hP 1 rfl rfl 0 (by decide) (hts (.fieldLink RX1 19 "MarkedCurves$Desk" "genus" "I") (List.mem_of_getElem? (i := 1) (by decide +kernel))) (fun _ h9 => h9) rfl dX1_copyFrom_2 ?_
  refine va_put (D := G) (ci := 1) (v := .int p0_genus) (ty := .int) (C := RX1) (T := TX1) (N := 5) hx hb hts hinX1 tyX1 tyX1_ok nmX1 hown hK hP hD hS 0 rfl rfl 0 (by decide) (hts (.fieldLink RX1 19 "MarkedCurves$Desk" "genus" "I") (List.mem_of_getElem? (i := 1) (by decide +kernel))) (fun _ h9 => h9) rfl (by decide +kernel) rfl rfl (Nat.le_of_ble_eq_true rfl) dX1_copyFrom_5 (fun H locs hP hD hS => ?_)
  have hP : va_P G vwCl [(h_t, .inr (1, [.int p0_genus, .int t_size, .ref h_t_powers, .int t_limit, .long t_tree])), (h_p0, .inr (1, [.int p0_genus, .int p0_size, .ref h_p0_powers, .int p0_limit, .long p0_tree])), (h_t_powers, .inl (cI, 8, .inl a_t_powers)), (h_p0_powers, .inl (cI, 8, .inl a_p0_powers))] H := hP
  have hD : va_D A [(h_t, .inr (1, [.int p0_genus, .int t_size, .ref h_t_powers, .int t_limit, .long t_tree])), (h_p0, .inr (1, [.int p0_genus, .int p0_size, .ref h_p0_powers, .int p0_limit, .long p0_tree])), (h_t_powers, .inl (cI, 8, .inl a_t_powers)), (h_p0_powers, .inl (cI, 8, .inl a_p0_powers))] := hD
  refine lv_aload_n hx hb dX1_copyFrom_8 rfl (lv_at hl 0 rfl) ?_
  refine lv_aload_n hx hb dX1_copyFrom_9 rfl (lv_at hl 1 rfl) ?_
  refine va_get (D := G) (ci := 1) (v := .int p0_size) (C := RX1) (T := TX1) (N := 5) hx hb hts hinX1 hown hK hP 1 rfl rfl 1 (by decide) (hts (.fieldLink RX1 22 "MarkedCurves$Desk" "size" "I") (List.mem_of_getElem? (i := 2) (by decide +kernel))) (fun _ h9 => h9) rfl dX1_copyFrom_10 ?_
  refine va_put (D := G) (ci := 1) (v := .int p0_size) (ty := .int) (C := RX1) (T := TX1) (N := 5) hx hb hts hinX1 tyX1 tyX1_ok nmX1 hown hK hP hD hS 0 rfl rfl 1 (by decide) (hts (.fieldLink RX1 22 "MarkedCurves$Desk" "size" "I") (List.mem_of_getElem? (i := 2) (by decide +kernel))) (fun _ h9 => h9) rfl (by decide +kernel) rfl rfl (Nat.le_of_ble_eq_true rfl) dX1_copyFrom_13 (fun H locs hP hD hS => ?_)
  have hP : va_P G vwCl [(h_t, .inr (1, [.int p0_genus, .int p0_size, .ref h_t_powers, .int t_limit, .long t_tree])), (h_p0, .inr (1, [.int p0_genus, .int p0_size, .ref h_p0_powers, .int p0_limit, .long p0_tree])), (h_t_powers, .inl (cI, 8, .inl a_t_powers)), (h_p0_powers, .inl (cI, 8, .inl a_p0_powers))] H := hP
  have hD : va_D A [(h_t, .inr (1, [.int p0_genus, .int p0_size, .ref h_t_powers, .int t_limit, .long t_tree])), (h_p0, .inr (1, [.int p0_genus, .int p0_size, .ref h_p0_powers, .int p0_limit, .long p0_tree])), (h_t_powers, .inl (cI, 8, .inl a_t_powers)), (h_p0_powers, .inl (cI, 8, .inl a_p0_powers))] := hD
  refine lv_iconst (v := (0 : Int32)) hx hb dX1_copyFrom_16 (by decide) ?_
  refine lv_istore_n (lv' := [(2, .int (0 : Int32)), (0, .ref h_t), (1, .ref h_p0)]) hx hb dX1_copyFrom_17 rfl hl (by decide) rfl (fun ls hl => ?_)
  have hK_X1_copyFrom_18_42 : ∀  (vK18_42_0 : Nat → Int32) (H : Heap) (locs : List Loc) (ls : Array Slot), va_P G vwCl [(h_t, .inr (1, [.int p0_genus, .int p0_size, .ref h_t_powers, .int t_limit, .long t_tree])), (h_p0, .inr (1, [.int p0_genus, .int p0_size, .ref h_p0_powers, .int p0_limit, .long p0_tree])), (h_t_powers, .inl (cI, 8, .inl vK18_42_0)), (h_p0_powers, .inl (cI, 8, .inl a_p0_powers))] H → va_D A [(h_t, .inr (1, [.int p0_genus, .int p0_size, .ref h_t_powers, .int t_limit, .long t_tree])), (h_p0, .inr (1, [.int p0_genus, .int p0_size, .ref h_p0_powers, .int p0_limit, .long p0_tree])), (h_t_powers, .inl (cI, 8, .inl vK18_42_0)), (h_p0_powers, .inl (cI, 8, .inl a_p0_powers))] → va_S A s.heap H locs → lv_has ls 3 [(0, .ref h_t), (1, .ref h_p0)] → K_X1_copyFrom_18_42 p0_genus p0_size p0_limit p0_tree vK18_42_0 = some (w0, w1, w2, w3, w4) → W p l e (headSpec wsX1_copyFrom ({ frames := 0, cells := 0, slots := 0, locals := 0 })).room s m ([.ref h_t, .ref h_p0] : List Value).toArray below meth c H locs 0 0 (MQ below (va_Qv (fun (_ : Unit) => True) (fun _ t => va_P G vwCl [(h_t, .inr (1, [.int w1, .int w2, .ref h_t_powers, .int w3, .long w4])), (h_p0, .inr (1, [.int p0_genus, .int p0_size, .ref h_p0_powers, .int p0_limit, .long p0_tree])), (h_t_powers, .inl (cI, 8, .inl w0)), (h_p0_powers, .inl (cI, 8, .inl a_p0_powers))] t.heap) A) ([.ref h_t, .ref h_p0] : List Value).toArray s 0 0 A) (F0 m 42 ls []) := by
    intro vK18_42_0 H locs ls hP hD hS hl h
    unfold K_X1_copyFrom_18_42 at h
    refine lv_aload_n hx hb dX1_copyFrom_42 rfl (lv_at hl 0 rfl) ?_
    refine lv_aload_n hx hb dX1_copyFrom_43 rfl (lv_at hl 1 rfl) ?_
    refine va_get (D := G) (ci := 1) (v := .int p0_limit) (C := RX1) (T := TX1) (N := 5) hx hb hts hinX1 hown hK hP 1 rfl rfl 3 (by decide) (hts (.fieldLink RX1 15 "MarkedCurves$Desk" "limit" "I") (List.mem_of_getElem? (i := 4) (by decide +kernel))) (fun _ h9 => h9) rfl dX1_copyFrom_44 ?_
    refine va_put (D := G) (ci := 1) (v := .int p0_limit) (ty := .int) (C := RX1) (T := TX1) (N := 5) hx hb hts hinX1 tyX1 tyX1_ok nmX1 hown hK hP hD hS 0 rfl rfl 3 (by decide) (hts (.fieldLink RX1 15 "MarkedCurves$Desk" "limit" "I") (List.mem_of_getElem? (i := 4) (by decide +kernel))) (fun _ h9 => h9) rfl (by decide +kernel) rfl rfl (Nat.le_of_ble_eq_true rfl) dX1_copyFrom_47 (fun H locs hP hD hS => ?_)
    have hP : va_P G vwCl [(h_t, .inr (1, [.int p0_genus, .int p0_size, .ref h_t_powers, .int p0_limit, .long t_tree])), (h_p0, .inr (1, [.int p0_genus, .int p0_size, .ref h_p0_powers, .int p0_limit, .long p0_tree])), (h_t_powers, .inl (cI, 8, .inl vK18_42_0)), (h_p0_powers, .inl (cI, 8, .inl a_p0_powers))] H := hP
    have hD : va_D A [(h_t, .inr (1, [.int p0_genus, .int p0_size, .ref h_t_powers, .int p0_limit, .long t_tree])), (h_p0, .inr (1, [.int p0_genus, .int p0_size, .ref h_p0_powers, .int p0_limit, .long p0_tree])), (h_t_powers, .inl (cI, 8, .inl vK18_42_0)), (h_p0_powers, .inl (cI, 8, .inl a_p0_powers))] := hD
    refine lv_aload_n hx hb dX1_copyFrom_50 rfl (lv_at hl 0 rfl) ?_
    refine lv_aload_n hx hb dX1_copyFrom_51 rfl (lv_at hl 1 rfl) ?_
    refine va_get (D := G) (ci := 1) (v := .long p0_tree) (C := RX1) (T := TX1) (N := 5) hx hb hts hinX1 hown hK hP 1 rfl rfl 4 (by decide) (hts (.fieldLink RX1 25 "MarkedCurves$Desk" "tree" "J") (List.mem_of_getElem? (i := 5) (by decide +kernel))) (fun _ h9 => h9) rfl dX1_copyFrom_52 ?_
    refine va_put (D := G) (ci := 1) (v := .long p0_tree) (ty := .long) (C := RX1) (T := TX1) (N := 5) hx hb hts hinX1 tyX1 tyX1_ok nmX1 hown hK hP hD hS 0 rfl rfl 4 (by decide) (hts (.fieldLink RX1 25 "MarkedCurves$Desk" "tree" "J") (List.mem_of_getElem? (i := 5) (by decide +kernel))) (fun _ h9 => h9) rfl (by decide +kernel) rfl rfl (Nat.le_of_ble_eq_true rfl) dX1_copyFrom_55 (fun H locs hP hD hS => ?_)
    have hP : va_P G vwCl [(h_t, .inr (1, [.int p0_genus, .int p0_size, .ref h_t_powers, .int p0_limit, .long p0_tree])), (h_p0, .inr (1, [.int p0_genus, .int p0_size, .ref h_p0_powers, .int p0_limit, .long p0_tree])), (h_t_powers, .inl (cI, 8, .inl vK18_42_0)), (h_p0_powers, .inl (cI, 8, .inl a_p0_powers))] H := hP
    have hD : va_D A [(h_t, .inr (1, [.int p0_genus, .int p0_size, .ref h_t_powers, .int p0_limit, .long p0_tree])), (h_p0, .inr (1, [.int p0_genus, .int p0_size, .ref h_p0_powers, .int p0_limit, .long p0_tree])), (h_t_powers, .inl (cI, 8, .inl vK18_42_0)), (h_p0_powers, .inl (cI, 8, .inl a_p0_powers))] := hD
    cases h
    exact k_vret hx hb hr hlocks hP hS dX1_copyFrom_58
  have hL18 : ∀ (n18 : Nat) (vL18_0 : Nat → Int32) (vL18_1 : Int32) (H : Heap) (locs : List Loc) (ls : Array Slot), va_P G vwCl [(h_t, .inr (1, [.int p0_genus, .int p0_size, .ref h_t_powers, .int t_limit, .long t_tree])), (h_p0, .inr (1, [.int p0_genus, .int p0_size, .ref h_p0_powers, .int p0_limit, .long p0_tree])), (h_t_powers, .inl (cI, 8, .inl vL18_0)), (h_p0_powers, .inl (cI, 8, .inl a_p0_powers))] H → va_D A [(h_t, .inr (1, [.int p0_genus, .int p0_size, .ref h_t_powers, .int t_limit, .long t_tree])), (h_p0, .inr (1, [.int p0_genus, .int p0_size, .ref h_p0_powers, .int p0_limit, .long p0_tree])), (h_t_powers, .inl (cI, 8, .inl vL18_0)), (h_p0_powers, .inl (cI, 8, .inl a_p0_powers))] → va_S A s.heap H locs → lv_has ls 3 [(0, .ref h_t), (1, .ref h_p0), (2, .int vL18_1)] → wq2 (B_X1_copyFrom_18 a_p0_powers (K_X1_copyFrom_18_42 p0_genus p0_size p0_limit p0_tree)) n18 vL18_0 vL18_1 = some (w0, w1, w2, w3, w4) → W p l e (headSpec wsX1_copyFrom ({ frames := 0, cells := 0, slots := 0, locals := 0 })).room s m ([.ref h_t, .ref h_p0] : List Value).toArray below meth c H locs 0 0 (MQ below (va_Qv (fun (_ : Unit) => True) (fun _ t => va_P G vwCl [(h_t, .inr (1, [.int w1, .int w2, .ref h_t_powers, .int w3, .long w4])), (h_p0, .inr (1, [.int p0_genus, .int p0_size, .ref h_p0_powers, .int p0_limit, .long p0_tree])), (h_t_powers, .inl (cI, 8, .inl w0)), (h_p0_powers, .inl (cI, 8, .inl a_p0_powers))] t.heap) A) ([.ref h_t, .ref h_p0] : List Value).toArray s 0 0 A) (F0 m 18 ls []) := by
    intro n18
    induction n18 with
    | zero => intro vL18_0 vL18_1 H locs ls hP hD hS hl h; exact wq2_0 h
    | succ n18 ih18 =>
      intro vL18_0 vL18_1 H locs ls hP hD hS hl h
      have h := wq2_s h
      unfold B_X1_copyFrom_18 at h
      refine lv_iload_n hx hb dX1_copyFrom_18 rfl (lv_at hl 2 rfl) ?_
      refine lv_bipush (v := (8 : Int32)) hx hb dX1_copyFrom_19 (by decide) ?_
      refine lv_icmp_ge (tgt := 42) hx hb dX1_copyFrom_21 (by decide) (fun c1 => ?_) (fun c1 => ?_)
      · have h := it_p h c1
        exact hK_X1_copyFrom_18_42 vL18_0 _ _ _ hP hD hS (lv_sub hl [0, 1] rfl) h
      have h := it_n h c1
      refine lv_aload_n hx hb dX1_copyFrom_24 rfl (lv_at hl 0 rfl) ?_
      refine va_get (D := G) (ci := 1) (v := .ref h_t_powers) (C := RX1) (T := TX1) (N := 5) hx hb hts hinX1 hown hK hP 0 rfl rfl 2 (by decide) (hts (.fieldLink RX1 9 "MarkedCurves$Desk" "powers" "[I") (List.mem_of_getElem? (i := 3) (by decide +kernel))) (fun _ h9 => h9) rfl dX1_copyFrom_25 ?_
      refine lv_iload_n hx hb dX1_copyFrom_28 rfl (lv_at hl 2 rfl) ?_
      refine lv_aload_n hx hb dX1_copyFrom_29 rfl (lv_at hl 1 rfl) ?_
      refine va_get (D := G) (ci := 1) (v := .ref h_p0_powers) (C := RX1) (T := TX1) (N := 5) hx hb hts hinX1 hown hK hP 1 rfl rfl 2 (by decide) (hts (.fieldLink RX1 9 "MarkedCurves$Desk" "powers" "[I") (List.mem_of_getElem? (i := 3) (by decide +kernel))) (fun _ h9 => h9) rfl dX1_copyFrom_30 ?_
      refine lv_iload_n hx hb dX1_copyFrom_33 rfl (lv_at hl 2 rfl) ?_
      obtain ⟨hn2, h⟩ := ck_e h
      refine va_iald hx hb hK hP 3 0 rfl rfl hn2 dX1_copyFrom_34 ?_
      obtain ⟨hn3, h⟩ := ck_e h
      refine va_iast hx hb hK hP hD hS 2 0 rfl rfl hn3 dX1_copyFrom_35 (fun H locs hP hD hS => ?_)
      have hP : va_P G vwCl [(h_t, .inr (1, [.int p0_genus, .int p0_size, .ref h_t_powers, .int t_limit, .long t_tree])), (h_p0, .inr (1, [.int p0_genus, .int p0_size, .ref h_p0_powers, .int p0_limit, .long p0_tree])), (h_t_powers, .inl (cI, 8, .inl (upd vL18_0 vL18_1.toNatClampNeg (a_p0_powers vL18_1.toNatClampNeg)))), (h_p0_powers, .inl (cI, 8, .inl a_p0_powers))] H := hP
      have hD : va_D A [(h_t, .inr (1, [.int p0_genus, .int p0_size, .ref h_t_powers, .int t_limit, .long t_tree])), (h_p0, .inr (1, [.int p0_genus, .int p0_size, .ref h_p0_powers, .int p0_limit, .long p0_tree])), (h_t_powers, .inl (cI, 8, .inl (upd vL18_0 vL18_1.toNatClampNeg (a_p0_powers vL18_1.toNatClampNeg)))), (h_p0_powers, .inl (cI, 8, .inl a_p0_powers))] := hD
      refine lv_iinc (v := (vL18_1 + (1 : Int32))) (lv' := [(2, .int (vL18_1 + (1 : Int32))), (0, .ref h_t), (1, .ref h_p0)]) hx hb dX1_copyFrom_36 hl (k := 2) rfl (by first | rfl | decide) (by decide) rfl (fun ls hl => ?_)
      refine lv_goto (tgt := 18) hx hb dX1_copyFrom_39 (by decide) ?_
      exact ih18 (upd vL18_0 vL18_1.toNatClampNeg (a_p0_powers vL18_1.toNatClampNeg)) (vL18_1 + (1 : Int32)) _ _ _ hP hD hS (lv_sub hl [1, 2, 0] rfl) h
  exact hL18 FU a_t_powers (0 : Int32) _ _ _ hP hD hS (lv_sub hl [1, 2, 0] rfl) h

/-! X1_powerAt -/
noncomputable def F_X1_powerAt (a_t_powers : Nat → Int32) (p0 : Int32) : Option (Int32) :=
  if p0 < 0 then (some (0 : Int32)) else (if (8 : Int32) ≤ p0 then (some (0 : Int32)) else (ck p0 8 (some (a_t_powers p0.toNatClampNeg))))
theorem in_X1_powerAt_X1 : ∀ w ∈ wsX10, w ∈ wsX1_powerAt := mem_r _ [2, 3, 4, 5, 6] (by decide +kernel)
set_option maxHeartbeats 4000000 in
set_option maxRecDepth 100000 in
theorem c_X1_powerAt (l : Launch) (G : va_G) (cI cJ cD cH : ClassId) (sz : Nat) (h_t : Nat) (h_t_powers : Nat) (t_genus : Int32) (t_size : Int32) (t_limit : Int32) (t_tree : Int64) (a_t_powers : Nat → Int32) (p0 : Int32) (r0 : Int32) (hF : F_X1_powerAt a_t_powers p0 = some r0) : Met l yX1_powerAt wsX1_powerAt ({ frames := 0, cells := 0, slots := 0, locals := 0 }) (k_pre G (k_T cI cJ cD cH) [(h_t, .inr (1, [.int t_genus, .int t_size, .ref h_t_powers, .int t_limit, .long t_tree])), (h_t_powers, .inl (cI, 8, .inl a_t_powers))] sz [.ref h_t, .int p0]) (va_Qi (fun r (_ : Unit) => r = r0 ∧ True) (fun _ t => va_P G vwCl [(h_t, .inr (1, [.int t_genus, .int t_size, .ref h_t_powers, .int t_limit, .long t_tree])), (h_t_powers, .inl (cI, 8, .inl a_t_powers))] t.heap) (va_A [(h_t, .inr (1, [.int t_genus, .int t_size, .ref h_t_powers, .int t_limit, .long t_tree])), (h_t_powers, .inl (cI, 8, .inl a_t_powers))] sz)) 0 0 (va_A [(h_t, .inr (1, [.int t_genus, .int t_size, .ref h_t_powers, .int t_limit, .long t_tree])), (h_t_powers, .inl (cI, 8, .inl a_t_powers))] sz) := by
  refine Met.ofW (cc := cX1_powerAt) (maxL := 2) (ret := (some .int)) (by decide) rfl ?_
  intro p e s m args below meth c s₁ B hml hv
  obtain ⟨rfl, hsz, hP, hK, hD0⟩ := hv
  have hx := B.exec
  have hb := B.bytes
  have hr := B.returns
  have hts := atoms_spec (ws := wsX1_powerAt) B.pre
  have hown : s.vm.findClass RX1 = some m.cls := findClass_of_methodNamed B.named
  have hlocks := B.notSynchronized
  subst hsz
  have hD := hD0.self (sz := s.heap.size)
  generalize hAe : va_A [(h_t, .inr (1, [.int t_genus, .int t_size, .ref h_t_powers, .int t_limit, .long t_tree])), (h_t_powers, .inl (cI, 8, .inl a_t_powers))] s.heap.size = A at hD ⊢
  have hA : ∀ q : Nat, s.heap.size ≤ q → A q := fun q h => by rw [← hAe]; exact Or.inr h
  have hS : va_S A s.heap s.heap [] := va_S.rf
  have hl := lv_entry ([.ref h_t, .int p0]) (n := 2) (Nat.le_of_ble_eq_true rfl)
  rw [lg_entry_eq]
  generalize (lg_sl ([.ref h_t, .int p0]) ++ List.replicate (2 - (lg_sl ([.ref h_t, .int p0])).length) Slot.unset).toArray = ls at hl ⊢
  have hl : lv_has ls 2 [(0, .ref h_t), (1, .int p0)] := hl
  have hinX1 : ∀ w ∈ wsX10, w ∈ wsX1_powerAt := in_X1_powerAt_X1
  have h := hF
  unfold F_X1_powerAt at h
  refine lv_iload_n hx hb dX1_powerAt_0 rfl (lv_at hl 1 rfl) ?_
  refine lv_if_lt (tgt := 19) hx hb dX1_powerAt_1 (by decide) (fun c1 => ?_) (fun c1 => ?_)
  · have h := it_p h c1
    refine lv_iconst (v := (0 : Int32)) hx hb dX1_powerAt_19 (by decide) ?_
    cases h
    exact k_iret hx hb hr hlocks hP hS rfl dX1_powerAt_20
  have h := it_n h c1
  refine lv_iload_n hx hb dX1_powerAt_4 rfl (lv_at hl 1 rfl) ?_
  refine lv_bipush (v := (8 : Int32)) hx hb dX1_powerAt_5 (by decide) ?_
  refine lv_icmp_ge (tgt := 19) hx hb dX1_powerAt_7 (by decide) (fun c2 => ?_) (fun c2 => ?_)
  · have h := it_p h c2
    refine lv_iconst (v := (0 : Int32)) hx hb dX1_powerAt_19 (by decide) ?_
    cases h
    exact k_iret hx hb hr hlocks hP hS rfl dX1_powerAt_20
  have h := it_n h c2
  refine lv_aload_n hx hb dX1_powerAt_10 rfl (lv_at hl 0 rfl) ?_
  refine va_get (D := G) (ci := 1) (v := .ref h_t_powers) (C := RX1) (T := TX1) (N := 5) hx hb hts hinX1 hown hK hP 0 rfl rfl 2 (by decide) (hts (.fieldLink RX1 9 "MarkedCurves$Desk" "powers" "[I") (List.mem_of_getElem? (i := 1) (by decide +kernel))) (fun _ h9 => h9) rfl dX1_powerAt_11 ?_
  refine lv_iload_n hx hb dX1_powerAt_14 rfl (lv_at hl 1 rfl) ?_
  obtain ⟨hn3, h⟩ := ck_e h
  refine va_iald hx hb hK hP 1 0 rfl rfl hn3 dX1_powerAt_15 ?_
  refine lv_goto (tgt := 20) hx hb dX1_powerAt_16 (by decide) ?_
  cases h
  exact k_iret hx hb hr hlocks hP hS rfl dX1_powerAt_20

/-! X1_unlikePowers -/
noncomputable def K_X1_unlikePowers_4_42  (vK4_42_0 : Int32) : Option (Int32) :=
  some vK4_42_0
noncomputable def B_X1_unlikePowers_4 (t_size : Int32) (p0_size : Int32) (a_t_powers : Nat → Int32) (a_p0_powers : Nat → Int32) (kk4_42 : Int32 → Option (Int32)) (vL4_0 : Int32) (vL4_1 : Int32) (ag4 : Int32 → Int32 → Option (Int32)) : Option (Int32) :=
  if t_size ≤ vL4_1 then (kk4_42 vL4_0) else (if p0_size ≤ vL4_1 then (kk4_42 vL4_0) else (bd (F_X1_powerAt a_t_powers vL4_1) (fun x3 => bd (F_X1_powerAt a_p0_powers vL4_1) (fun x4 => if x3 = x4 then (ag4 vL4_0 (vL4_1 + (1 : Int32))) else (ag4 (vL4_0 + (1 : Int32)) (vL4_1 + (1 : Int32)))))))
noncomputable def F_X1_unlikePowers (t_size : Int32) (p0_size : Int32) (a_t_powers : Nat → Int32) (a_p0_powers : Nat → Int32) : Option (Int32) :=
  wq2 (B_X1_unlikePowers_4 t_size p0_size a_t_powers a_p0_powers K_X1_unlikePowers_4_42) FU (0 : Int32) (0 : Int32)
theorem in_X1_unlikePowers_X1 : ∀ w ∈ wsX10, w ∈ wsX1_unlikePowers := mem_r _ [8, 9, 10, 11, 12] (by decide +kernel)
set_option maxHeartbeats 4000000 in
set_option maxRecDepth 100000 in
theorem c_X1_unlikePowers (l : Launch) (G : va_G) (cI cJ cD cH : ClassId) (sz : Nat) (h_t : Nat) (h_p0 : Nat) (h_t_powers : Nat) (h_p0_powers : Nat) (t_genus : Int32) (t_size : Int32) (t_limit : Int32) (t_tree : Int64) (p0_genus : Int32) (p0_size : Int32) (p0_limit : Int32) (p0_tree : Int64) (a_t_powers : Nat → Int32) (a_p0_powers : Nat → Int32) (r0 : Int32) (hF : F_X1_unlikePowers t_size p0_size a_t_powers a_p0_powers = some r0) : Met l yX1_unlikePowers wsX1_unlikePowers ({ frames := 1, cells := 0, slots := 0, locals := 21 }) (k_pre G (k_T cI cJ cD cH) [(h_t, .inr (1, [.int t_genus, .int t_size, .ref h_t_powers, .int t_limit, .long t_tree])), (h_p0, .inr (1, [.int p0_genus, .int p0_size, .ref h_p0_powers, .int p0_limit, .long p0_tree])), (h_t_powers, .inl (cI, 8, .inl a_t_powers)), (h_p0_powers, .inl (cI, 8, .inl a_p0_powers))] sz [.ref h_t, .ref h_p0]) (va_Qi (fun r (_ : Unit) => r = r0 ∧ True) (fun _ t => va_P G vwCl [(h_t, .inr (1, [.int t_genus, .int t_size, .ref h_t_powers, .int t_limit, .long t_tree])), (h_p0, .inr (1, [.int p0_genus, .int p0_size, .ref h_p0_powers, .int p0_limit, .long p0_tree])), (h_t_powers, .inl (cI, 8, .inl a_t_powers)), (h_p0_powers, .inl (cI, 8, .inl a_p0_powers))] t.heap) (va_A [(h_t, .inr (1, [.int t_genus, .int t_size, .ref h_t_powers, .int t_limit, .long t_tree])), (h_p0, .inr (1, [.int p0_genus, .int p0_size, .ref h_p0_powers, .int p0_limit, .long p0_tree])), (h_t_powers, .inl (cI, 8, .inl a_t_powers)), (h_p0_powers, .inl (cI, 8, .inl a_p0_powers))] sz)) 0 0 (va_A [(h_t, .inr (1, [.int t_genus, .int t_size, .ref h_t_powers, .int t_limit, .long t_tree])), (h_p0, .inr (1, [.int p0_genus, .int p0_size, .ref h_p0_powers, .int p0_limit, .long p0_tree])), (h_t_powers, .inl (cI, 8, .inl a_t_powers)), (h_p0_powers, .inl (cI, 8, .inl a_p0_powers))] sz) := by
  refine Met.ofW (cc := cX1_unlikePowers) (maxL := 4) (ret := (some .int)) (by decide) rfl ?_
  intro p e s m args below meth c s₁ B hml hv
  obtain ⟨rfl, hsz, hP, hK, hD0⟩ := hv
  have hx := B.exec
  have hb := B.bytes
  have hr := B.returns
  have hts := atoms_spec (ws := wsX1_unlikePowers) B.pre
  have hown : s.vm.findClass RX1 = some m.cls := findClass_of_methodNamed B.named
  have hlocks := B.notSynchronized
  subst hsz
  have hD := hD0.self (sz := s.heap.size)
  generalize hAe : va_A [(h_t, .inr (1, [.int t_genus, .int t_size, .ref h_t_powers, .int t_limit, .long t_tree])), (h_p0, .inr (1, [.int p0_genus, .int p0_size, .ref h_p0_powers, .int p0_limit, .long p0_tree])), (h_t_powers, .inl (cI, 8, .inl a_t_powers)), (h_p0_powers, .inl (cI, 8, .inl a_p0_powers))] s.heap.size = A at hD ⊢
  have hA : ∀ q : Nat, s.heap.size ≤ q → A q := fun q h => by rw [← hAe]; exact Or.inr h
  have hS : va_S A s.heap s.heap [] := va_S.rf
  have hl := lv_entry ([.ref h_t, .ref h_p0]) (n := 4) (Nat.le_of_ble_eq_true rfl)
  rw [lg_entry_eq]
  generalize (lg_sl ([.ref h_t, .ref h_p0]) ++ List.replicate (4 - (lg_sl ([.ref h_t, .ref h_p0])).length) Slot.unset).toArray = ls at hl ⊢
  have hl : lv_has ls 4 [(0, .ref h_t), (1, .ref h_p0)] := hl
  have hinX1 : ∀ w ∈ wsX10, w ∈ wsX1_unlikePowers := in_X1_unlikePowers_X1
  have h := hF
  unfold F_X1_unlikePowers at h
  refine lv_iconst (v := (0 : Int32)) hx hb dX1_unlikePowers_0 (by decide) ?_
  refine lv_istore_n (lv' := [(2, .int (0 : Int32)), (0, .ref h_t), (1, .ref h_p0)]) hx hb dX1_unlikePowers_1 rfl hl (by decide) rfl (fun ls hl => ?_)
  refine lv_iconst (v := (0 : Int32)) hx hb dX1_unlikePowers_2 (by decide) ?_
  refine lv_istore_n (lv' := [(3, .int (0 : Int32)), (2, .int (0 : Int32)), (0, .ref h_t), (1, .ref h_p0)]) hx hb dX1_unlikePowers_3 rfl hl (by decide) rfl (fun ls hl => ?_)
  have hK_X1_unlikePowers_4_42 : ∀  (vK4_42_0 : Int32) (H : Heap) (locs : List Loc) (ls : Array Slot), va_P G vwCl [(h_t, .inr (1, [.int t_genus, .int t_size, .ref h_t_powers, .int t_limit, .long t_tree])), (h_p0, .inr (1, [.int p0_genus, .int p0_size, .ref h_p0_powers, .int p0_limit, .long p0_tree])), (h_t_powers, .inl (cI, 8, .inl a_t_powers)), (h_p0_powers, .inl (cI, 8, .inl a_p0_powers))] H → va_D A [(h_t, .inr (1, [.int t_genus, .int t_size, .ref h_t_powers, .int t_limit, .long t_tree])), (h_p0, .inr (1, [.int p0_genus, .int p0_size, .ref h_p0_powers, .int p0_limit, .long p0_tree])), (h_t_powers, .inl (cI, 8, .inl a_t_powers)), (h_p0_powers, .inl (cI, 8, .inl a_p0_powers))] → va_S A s.heap H locs → lv_has ls 4 [(2, .int vK4_42_0)] → K_X1_unlikePowers_4_42 vK4_42_0 = some r0 → W p l e (headSpec wsX1_unlikePowers ({ frames := 1, cells := 0, slots := 0, locals := 21 })).room s m ([.ref h_t, .ref h_p0] : List Value).toArray below meth c H locs 0 0 (MQ below (va_Qi (fun r (_ : Unit) => r = r0 ∧ True) (fun _ t => va_P G vwCl [(h_t, .inr (1, [.int t_genus, .int t_size, .ref h_t_powers, .int t_limit, .long t_tree])), (h_p0, .inr (1, [.int p0_genus, .int p0_size, .ref h_p0_powers, .int p0_limit, .long p0_tree])), (h_t_powers, .inl (cI, 8, .inl a_t_powers)), (h_p0_powers, .inl (cI, 8, .inl a_p0_powers))] t.heap) A) ([.ref h_t, .ref h_p0] : List Value).toArray s 0 0 A) (F0 m 42 ls []) := by
    intro vK4_42_0 H locs ls hP hD hS hl h
    unfold K_X1_unlikePowers_4_42 at h
    refine lv_iload_n hx hb dX1_unlikePowers_42 rfl (lv_at hl 0 rfl) ?_
    cases h
    exact k_iret hx hb hr hlocks hP hS rfl dX1_unlikePowers_43
  have hL4 : ∀ (n4 : Nat) (vL4_0 : Int32) (vL4_1 : Int32) (H : Heap) (locs : List Loc) (ls : Array Slot), va_P G vwCl [(h_t, .inr (1, [.int t_genus, .int t_size, .ref h_t_powers, .int t_limit, .long t_tree])), (h_p0, .inr (1, [.int p0_genus, .int p0_size, .ref h_p0_powers, .int p0_limit, .long p0_tree])), (h_t_powers, .inl (cI, 8, .inl a_t_powers)), (h_p0_powers, .inl (cI, 8, .inl a_p0_powers))] H → va_D A [(h_t, .inr (1, [.int t_genus, .int t_size, .ref h_t_powers, .int t_limit, .long t_tree])), (h_p0, .inr (1, [.int p0_genus, .int p0_size, .ref h_p0_powers, .int p0_limit, .long p0_tree])), (h_t_powers, .inl (cI, 8, .inl a_t_powers)), (h_p0_powers, .inl (cI, 8, .inl a_p0_powers))] → va_S A s.heap H locs → lv_has ls 4 [(0, .ref h_t), (1, .ref h_p0), (2, .int vL4_0), (3, .int vL4_1)] → wq2 (B_X1_unlikePowers_4 t_size p0_size a_t_powers a_p0_powers K_X1_unlikePowers_4_42) n4 vL4_0 vL4_1 = some r0 → W p l e (headSpec wsX1_unlikePowers ({ frames := 1, cells := 0, slots := 0, locals := 21 })).room s m ([.ref h_t, .ref h_p0] : List Value).toArray below meth c H locs 0 0 (MQ below (va_Qi (fun r (_ : Unit) => r = r0 ∧ True) (fun _ t => va_P G vwCl [(h_t, .inr (1, [.int t_genus, .int t_size, .ref h_t_powers, .int t_limit, .long t_tree])), (h_p0, .inr (1, [.int p0_genus, .int p0_size, .ref h_p0_powers, .int p0_limit, .long p0_tree])), (h_t_powers, .inl (cI, 8, .inl a_t_powers)), (h_p0_powers, .inl (cI, 8, .inl a_p0_powers))] t.heap) A) ([.ref h_t, .ref h_p0] : List Value).toArray s 0 0 A) (F0 m 4 ls []) := by
    intro n4
    induction n4 with
    | zero => intro vL4_0 vL4_1 H locs ls hP hD hS hl h; exact wq2_0 h
    | succ n4 ih4 =>
      intro vL4_0 vL4_1 H locs ls hP hD hS hl h
      have h := wq2_s h
      unfold B_X1_unlikePowers_4 at h
      refine lv_iload_n hx hb dX1_unlikePowers_4 rfl (lv_at hl 3 rfl) ?_
      refine lv_aload_n hx hb dX1_unlikePowers_5 rfl (lv_at hl 0 rfl) ?_
      refine va_get (D := G) (ci := 1) (v := .int t_size) (C := RX1) (T := TX1) (N := 5) hx hb hts hinX1 hown hK hP 0 rfl rfl 1 (by decide) (hts (.fieldLink RX1 22 "MarkedCurves$Desk" "size" "I") (List.mem_of_getElem? (i := 1) (by decide +kernel))) (fun _ h9 => h9) rfl dX1_unlikePowers_6 ?_
      refine lv_icmp_ge (tgt := 42) hx hb dX1_unlikePowers_9 (by decide) (fun c1 => ?_) (fun c1 => ?_)
      · have h := it_p h c1
        exact hK_X1_unlikePowers_4_42 vL4_0 _ _ _ hP hD hS (lv_sub hl [2] rfl) h
      have h := it_n h c1
      refine lv_iload_n hx hb dX1_unlikePowers_12 rfl (lv_at hl 3 rfl) ?_
      refine lv_aload_n hx hb dX1_unlikePowers_13 rfl (lv_at hl 1 rfl) ?_
      refine va_get (D := G) (ci := 1) (v := .int p0_size) (C := RX1) (T := TX1) (N := 5) hx hb hts hinX1 hown hK hP 1 rfl rfl 1 (by decide) (hts (.fieldLink RX1 22 "MarkedCurves$Desk" "size" "I") (List.mem_of_getElem? (i := 1) (by decide +kernel))) (fun _ h9 => h9) rfl dX1_unlikePowers_14 ?_
      refine lv_icmp_ge (tgt := 42) hx hb dX1_unlikePowers_17 (by decide) (fun c2 => ?_) (fun c2 => ?_)
      · have h := it_p h c2
        exact hK_X1_unlikePowers_4_42 vL4_0 _ _ _ hP hD hS (lv_sub hl [2] rfl) h
      have h := it_n h c2
      refine lv_aload_n hx hb dX1_unlikePowers_20 rfl (lv_at hl 0 rfl) ?_
      refine lv_iload_n hx hb dX1_unlikePowers_21 rfl (lv_at hl 3 rfl) ?_
      obtain ⟨x3, hx3, h⟩ := bd_e h
      try dsimp only at h
      refine k_ViU (n := 1) (As := [.int vL4_1]) (rest := []) hx hb hml hown hts (c_X1_powerAt l G cI cJ cD cH H.size h_t h_t_powers t_genus t_size t_limit t_tree a_t_powers vL4_1 x3 hx3) gX1_unlikePowers_X1_powerAt rfl rfl rfl (by decide +kernel) ⟨by first | exact Nat.le_of_ble_eq_true rfl | (simp only [headSpec]; omega), by first | exact Nat.le_of_ble_eq_true rfl | (simp only [headSpec]; omega)⟩ hK hP hD hS hA [0, 2] (by decide) rfl (ci := 1) rfl rfl rfl rfl rfl hl.1 (Nat.le_of_ble_eq_true rfl) dX1_unlikePowers_22 ⟨Nat.zero_le _, Nat.zero_le _⟩ (fun hp3 H locs hP hS => ?_)
      refine lv_aload_n hx hb dX1_unlikePowers_25 rfl (lv_at hl 1 rfl) ?_
      refine lv_iload_n hx hb dX1_unlikePowers_26 rfl (lv_at hl 3 rfl) ?_
      obtain ⟨x4, hx4, h⟩ := bd_e h
      try dsimp only at h
      refine k_ViU (n := 1) (As := [.int vL4_1]) (rest := [.int x3]) hx hb hml hown hts (c_X1_powerAt l G cI cJ cD cH H.size h_p0 h_p0_powers p0_genus p0_size p0_limit p0_tree a_p0_powers vL4_1 x4 hx4) gX1_unlikePowers_X1_powerAt rfl rfl rfl (by decide +kernel) ⟨by first | exact Nat.le_of_ble_eq_true rfl | (simp only [headSpec]; omega), by first | exact Nat.le_of_ble_eq_true rfl | (simp only [headSpec]; omega)⟩ hK hP hD hS hA [1, 3] (by decide) rfl (ci := 1) rfl rfl rfl rfl rfl hl.1 (Nat.le_of_ble_eq_true rfl) dX1_unlikePowers_27 ⟨Nat.zero_le _, Nat.zero_le _⟩ (fun hp4 H locs hP hS => ?_)
      refine lv_icmp_eq (tgt := 36) hx hb dX1_unlikePowers_30 (by decide) (fun c5 => ?_) (fun c5 => ?_)
      · have h := it_p h c5
        refine lv_iinc (v := (vL4_1 + (1 : Int32))) (lv' := [(3, .int (vL4_1 + (1 : Int32))), (0, .ref h_t), (1, .ref h_p0), (2, .int vL4_0)]) hx hb dX1_unlikePowers_36 hl (k := 3) rfl (by first | rfl | decide) (by decide) rfl (fun ls hl => ?_)
        refine lv_goto (tgt := 4) hx hb dX1_unlikePowers_39 (by decide) ?_
        exact ih4 vL4_0 (vL4_1 + (1 : Int32)) _ _ _ hP hD hS (lv_sub hl [1, 2, 3, 0] rfl) h
      have h := it_n h c5
      refine lv_iinc (v := (vL4_0 + (1 : Int32))) (lv' := [(2, .int (vL4_0 + (1 : Int32))), (0, .ref h_t), (1, .ref h_p0), (3, .int vL4_1)]) hx hb dX1_unlikePowers_33 hl (k := 2) rfl (by first | rfl | decide) (by decide) rfl (fun ls hl => ?_)
      refine lv_iinc (v := (vL4_1 + (1 : Int32))) (lv' := [(3, .int (vL4_1 + (1 : Int32))), (2, .int (vL4_0 + (1 : Int32))), (0, .ref h_t), (1, .ref h_p0)]) hx hb dX1_unlikePowers_36 hl (k := 3) rfl (by first | rfl | decide) (by decide) rfl (fun ls hl => ?_)
      refine lv_goto (tgt := 4) hx hb dX1_unlikePowers_39 (by decide) ?_
      exact ih4 (vL4_0 + (1 : Int32)) (vL4_1 + (1 : Int32)) _ _ _ hP hD hS (lv_sub hl [2, 3, 1, 0] rfl) h
  exact hL4 FU (0 : Int32) (0 : Int32) _ _ _ hP hD hS (lv_sub hl [2, 3, 1, 0] rfl) h

/-! X1_isLike -/
noncomputable def F_X1_isLike (t_genus : Int32) (t_size : Int32) (t_limit : Int32) (t_tree : Int64) (p0_genus : Int32) (p0_size : Int32) (p0_limit : Int32) (p0_tree : Int64) (a_t_powers : Nat → Int32) (a_p0_powers : Nat → Int32) : Option (Int32) :=
  if t_genus = p0_genus then (if t_limit = p0_limit then (if (lg_cmp t_tree p0_tree) = 0 then (if t_size = p0_size then (bd (F_X1_unlikePowers t_size p0_size a_t_powers a_p0_powers) (fun x5 => if x5 = 0 then (some (1 : Int32)) else (some (0 : Int32)))) else (some (0 : Int32))) else (some (0 : Int32))) else (some (0 : Int32))) else (some (0 : Int32))
theorem in_X1_isLike_X1 : ∀ w ∈ wsX10, w ∈ wsX1_isLike := mem_r _ [15, 16, 17, 18, 19] (by decide +kernel)
set_option maxHeartbeats 4000000 in
set_option maxRecDepth 100000 in
theorem c_X1_isLike (l : Launch) (G : va_G) (cI cJ cD cH : ClassId) (sz : Nat) (h_t : Nat) (h_p0 : Nat) (h_t_powers : Nat) (h_p0_powers : Nat) (t_genus : Int32) (t_size : Int32) (t_limit : Int32) (t_tree : Int64) (p0_genus : Int32) (p0_size : Int32) (p0_limit : Int32) (p0_tree : Int64) (a_t_powers : Nat → Int32) (a_p0_powers : Nat → Int32) (r0 : Int32) (hF : F_X1_isLike t_genus t_size t_limit t_tree p0_genus p0_size p0_limit p0_tree a_t_powers a_p0_powers = some r0) : Met l yX1_isLike wsX1_isLike ({ frames := 2, cells := 0, slots := 0, locals := 44 }) (k_pre G (k_T cI cJ cD cH) [(h_t, .inr (1, [.int t_genus, .int t_size, .ref h_t_powers, .int t_limit, .long t_tree])), (h_p0, .inr (1, [.int p0_genus, .int p0_size, .ref h_p0_powers, .int p0_limit, .long p0_tree])), (h_t_powers, .inl (cI, 8, .inl a_t_powers)), (h_p0_powers, .inl (cI, 8, .inl a_p0_powers))] sz [.ref h_t, .ref h_p0]) (va_Qi (fun r (_ : Unit) => r = r0 ∧ narrow .boolean (.int r0) = .int r0) (fun _ t => va_P G vwCl [(h_t, .inr (1, [.int t_genus, .int t_size, .ref h_t_powers, .int t_limit, .long t_tree])), (h_p0, .inr (1, [.int p0_genus, .int p0_size, .ref h_p0_powers, .int p0_limit, .long p0_tree])), (h_t_powers, .inl (cI, 8, .inl a_t_powers)), (h_p0_powers, .inl (cI, 8, .inl a_p0_powers))] t.heap) (va_A [(h_t, .inr (1, [.int t_genus, .int t_size, .ref h_t_powers, .int t_limit, .long t_tree])), (h_p0, .inr (1, [.int p0_genus, .int p0_size, .ref h_p0_powers, .int p0_limit, .long p0_tree])), (h_t_powers, .inl (cI, 8, .inl a_t_powers)), (h_p0_powers, .inl (cI, 8, .inl a_p0_powers))] sz)) 0 0 (va_A [(h_t, .inr (1, [.int t_genus, .int t_size, .ref h_t_powers, .int t_limit, .long t_tree])), (h_p0, .inr (1, [.int p0_genus, .int p0_size, .ref h_p0_powers, .int p0_limit, .long p0_tree])), (h_t_powers, .inl (cI, 8, .inl a_t_powers)), (h_p0_powers, .inl (cI, 8, .inl a_p0_powers))] sz) := by
  refine Met.ofW (cc := cX1_isLike) (maxL := 2) (ret := (some .boolean)) (by decide) rfl ?_
  intro p e s m args below meth c s₁ B hml hv
  obtain ⟨rfl, hsz, hP, hK, hD0⟩ := hv
  have hx := B.exec
  have hb := B.bytes
  have hr := B.returns
  have hts := atoms_spec (ws := wsX1_isLike) B.pre
  have hown : s.vm.findClass RX1 = some m.cls := findClass_of_methodNamed B.named
  have hlocks := B.notSynchronized
  subst hsz
  have hD := hD0.self (sz := s.heap.size)
  generalize hAe : va_A [(h_t, .inr (1, [.int t_genus, .int t_size, .ref h_t_powers, .int t_limit, .long t_tree])), (h_p0, .inr (1, [.int p0_genus, .int p0_size, .ref h_p0_powers, .int p0_limit, .long p0_tree])), (h_t_powers, .inl (cI, 8, .inl a_t_powers)), (h_p0_powers, .inl (cI, 8, .inl a_p0_powers))] s.heap.size = A at hD ⊢
  have hA : ∀ q : Nat, s.heap.size ≤ q → A q := fun q h => by rw [← hAe]; exact Or.inr h
  have hS : va_S A s.heap s.heap [] := va_S.rf
  have hl := lv_entry ([.ref h_t, .ref h_p0]) (n := 2) (Nat.le_of_ble_eq_true rfl)
  rw [lg_entry_eq]
  generalize (lg_sl ([.ref h_t, .ref h_p0]) ++ List.replicate (2 - (lg_sl ([.ref h_t, .ref h_p0])).length) Slot.unset).toArray = ls at hl ⊢
  have hl : lv_has ls 2 [(0, .ref h_t), (1, .ref h_p0)] := hl
  have hinX1 : ∀ w ∈ wsX10, w ∈ wsX1_isLike := in_X1_isLike_X1
  have h := hF
  unfold F_X1_isLike at h
  refine lv_aload_n hx hb dX1_isLike_0 rfl (lv_at hl 0 rfl) ?_
  refine va_get (D := G) (ci := 1) (v := .int t_genus) (C := RX1) (T := TX1) (N := 5) hx hb hts hinX1 hown hK hP 0 rfl rfl 0 (by decide) (hts (.fieldLink RX1 19 "MarkedCurves$Desk" "genus" "I") (List.mem_of_getElem? (i := 1) (by decide +kernel))) (fun _ h9 => h9) rfl dX1_isLike_1 ?_
  refine lv_aload_n hx hb dX1_isLike_4 rfl (lv_at hl 1 rfl) ?_
  refine va_get (D := G) (ci := 1) (v := .int p0_genus) (C := RX1) (T := TX1) (N := 5) hx hb hts hinX1 hown hK hP 1 rfl rfl 0 (by decide) (hts (.fieldLink RX1 19 "MarkedCurves$Desk" "genus" "I") (List.mem_of_getElem? (i := 1) (by decide +kernel))) (fun _ h9 => h9) rfl dX1_isLike_5 ?_
  refine lv_icmp_ne (tgt := 57) hx hb dX1_isLike_8 (by decide) (fun c1 => ?_) (fun c1 => ?_)
  · have h := it_n h c1
    refine lv_iconst (v := (0 : Int32)) hx hb dX1_isLike_57 (by decide) ?_
    cases h
    exact k_zret hx hb hr hlocks hP hS rfl rfl dX1_isLike_58
  have h := it_p h c1
  refine lv_aload_n hx hb dX1_isLike_11 rfl (lv_at hl 0 rfl) ?_
  refine va_get (D := G) (ci := 1) (v := .int t_limit) (C := RX1) (T := TX1) (N := 5) hx hb hts hinX1 hown hK hP 0 rfl rfl 3 (by decide) (hts (.fieldLink RX1 15 "MarkedCurves$Desk" "limit" "I") (List.mem_of_getElem? (i := 2) (by decide +kernel))) (fun _ h9 => h9) rfl dX1_isLike_12 ?_
  refine lv_aload_n hx hb dX1_isLike_15 rfl (lv_at hl 1 rfl) ?_
  refine va_get (D := G) (ci := 1) (v := .int p0_limit) (C := RX1) (T := TX1) (N := 5) hx hb hts hinX1 hown hK hP 1 rfl rfl 3 (by decide) (hts (.fieldLink RX1 15 "MarkedCurves$Desk" "limit" "I") (List.mem_of_getElem? (i := 2) (by decide +kernel))) (fun _ h9 => h9) rfl dX1_isLike_16 ?_
  refine lv_icmp_ne (tgt := 57) hx hb dX1_isLike_19 (by decide) (fun c2 => ?_) (fun c2 => ?_)
  · have h := it_n h c2
    refine lv_iconst (v := (0 : Int32)) hx hb dX1_isLike_57 (by decide) ?_
    cases h
    exact k_zret hx hb hr hlocks hP hS rfl rfl dX1_isLike_58
  have h := it_p h c2
  refine lv_aload_n hx hb dX1_isLike_22 rfl (lv_at hl 0 rfl) ?_
  refine va_get (D := G) (ci := 1) (v := .long t_tree) (C := RX1) (T := TX1) (N := 5) hx hb hts hinX1 hown hK hP 0 rfl rfl 4 (by decide) (hts (.fieldLink RX1 25 "MarkedCurves$Desk" "tree" "J") (List.mem_of_getElem? (i := 3) (by decide +kernel))) (fun _ h9 => h9) rfl dX1_isLike_23 ?_
  refine lv_aload_n hx hb dX1_isLike_26 rfl (lv_at hl 1 rfl) ?_
  refine va_get (D := G) (ci := 1) (v := .long p0_tree) (C := RX1) (T := TX1) (N := 5) hx hb hts hinX1 hown hK hP 1 rfl rfl 4 (by decide) (hts (.fieldLink RX1 25 "MarkedCurves$Desk" "tree" "J") (List.mem_of_getElem? (i := 3) (by decide +kernel))) (fun _ h9 => h9) rfl dX1_isLike_27 ?_
  refine W.lcmp hx hb dX1_isLike_30 ?_
  refine lv_if_ne (tgt := 57) hx hb dX1_isLike_31 (by decide) (fun c3 => ?_) (fun c3 => ?_)
  · have h := it_n h c3
    refine lv_iconst (v := (0 : Int32)) hx hb dX1_isLike_57 (by decide) ?_
    cases h
    exact k_zret hx hb hr hlocks hP hS rfl rfl dX1_isLike_58
  have h := it_p h c3
  refine lv_aload_n hx hb dX1_isLike_34 rfl (lv_at hl 0 rfl) ?_
  refine va_get (D := G) (ci := 1) (v := .int t_size) (C := RX1) (T := TX1) (N := 5) hx hb hts hinX1 hown hK hP 0 rfl rfl 1 (by decide) (hts (.fieldLink RX1 22 "MarkedCurves$Desk" "size" "I") (List.mem_of_getElem? (i := 4) (by decide +kernel))) (fun _ h9 => h9) rfl dX1_isLike_35 ?_
  refine lv_aload_n hx hb dX1_isLike_38 rfl (lv_at hl 1 rfl) ?_
  refine va_get (D := G) (ci := 1) (v := .int p0_size) (C := RX1) (T := TX1) (N := 5) hx hb hts hinX1 hown hK hP 1 rfl rfl 1 (by decide) (hts (.fieldLink RX1 22 "MarkedCurves$Desk" "size" "I") (List.mem_of_getElem? (i := 4) (by decide +kernel))) (fun _ h9 => h9) rfl dX1_isLike_39 ?_
  refine lv_icmp_ne (tgt := 57) hx hb dX1_isLike_42 (by decide) (fun c4 => ?_) (fun c4 => ?_)
  · have h := it_n h c4
    refine lv_iconst (v := (0 : Int32)) hx hb dX1_isLike_57 (by decide) ?_
    cases h
    exact k_zret hx hb hr hlocks hP hS rfl rfl dX1_isLike_58
  have h := it_p h c4
  refine lv_aload_n hx hb dX1_isLike_45 rfl (lv_at hl 0 rfl) ?_
  refine lv_aload_n hx hb dX1_isLike_46 rfl (lv_at hl 1 rfl) ?_
  obtain ⟨x5, hx5, h⟩ := bd_e h
  try dsimp only at h
  refine k_ViU (n := 1) (As := [.ref h_p0]) (rest := []) hx hb hml hown hts (c_X1_unlikePowers l G cI cJ cD cH s.heap.size h_t h_p0 h_t_powers h_p0_powers t_genus t_size t_limit t_tree p0_genus p0_size p0_limit p0_tree a_t_powers a_p0_powers x5 hx5) gX1_isLike_X1_unlikePowers rfl rfl rfl (by decide +kernel) ⟨by first | exact Nat.le_of_ble_eq_true rfl | (simp only [headSpec]; omega), by first | exact Nat.le_of_ble_eq_true rfl | (simp only [headSpec]; omega)⟩ hK hP hD hS hA [0, 1, 2, 3] (by decide) rfl (ci := 1) rfl rfl rfl rfl rfl hl.1 (Nat.le_of_ble_eq_true rfl) dX1_isLike_47 ⟨Nat.zero_le _, Nat.zero_le _⟩ (fun hp5 H locs hP hS => ?_)
  refine lv_if_ne (tgt := 57) hx hb dX1_isLike_50 (by decide) (fun c6 => ?_) (fun c6 => ?_)
  · have h := it_n h c6
    refine lv_iconst (v := (0 : Int32)) hx hb dX1_isLike_57 (by decide) ?_
    cases h
    exact k_zret hx hb hr hlocks hP hS rfl rfl dX1_isLike_58
  have h := it_p h c6
  refine lv_iconst (v := (1 : Int32)) hx hb dX1_isLike_53 (by decide) ?_
  refine lv_goto (tgt := 58) hx hb dX1_isLike_54 (by decide) ?_
  cases h
  exact k_zret hx hb hr hlocks hP hS rfl rfl dX1_isLike_58

/-! X1_hasMark -/
noncomputable def F_X1_hasMark (t_size : Int32) (p0 : Int32) : Option (Int32) :=
  if p0 < 0 then (some (0 : Int32)) else (if t_size ≤ p0 then (some (0 : Int32)) else (some (1 : Int32)))
theorem in_X1_hasMark_X1 : ∀ w ∈ wsX10, w ∈ wsX1_hasMark := mem_r _ [2, 3, 4, 5, 6] (by decide +kernel)
set_option maxHeartbeats 4000000 in
set_option maxRecDepth 100000 in
theorem c_X1_hasMark (l : Launch) (G : va_G) (cI cJ cD cH : ClassId) (sz : Nat) (h_t : Nat) (h_t_powers : Nat) (t_genus : Int32) (t_size : Int32) (t_limit : Int32) (t_tree : Int64) (p0 : Int32) (r0 : Int32) (hF : F_X1_hasMark t_size p0 = some r0) : Met l yX1_hasMark wsX1_hasMark ({ frames := 0, cells := 0, slots := 0, locals := 0 }) (k_pre G (k_T cI cJ cD cH) [(h_t, .inr (1, [.int t_genus, .int t_size, .ref h_t_powers, .int t_limit, .long t_tree]))] sz [.ref h_t, .int p0]) (va_Qi (fun r (_ : Unit) => r = r0 ∧ narrow .boolean (.int r0) = .int r0) (fun _ t => va_P G vwCl [(h_t, .inr (1, [.int t_genus, .int t_size, .ref h_t_powers, .int t_limit, .long t_tree]))] t.heap) (va_A [(h_t, .inr (1, [.int t_genus, .int t_size, .ref h_t_powers, .int t_limit, .long t_tree]))] sz)) 0 0 (va_A [(h_t, .inr (1, [.int t_genus, .int t_size, .ref h_t_powers, .int t_limit, .long t_tree]))] sz) := by
  refine Met.ofW (cc := cX1_hasMark) (maxL := 2) (ret := (some .boolean)) (by decide) rfl ?_
  intro p e s m args below meth c s₁ B hml hv
  obtain ⟨rfl, hsz, hP, hK, hD0⟩ := hv
  have hx := B.exec
  have hb := B.bytes
  have hr := B.returns
  have hts := atoms_spec (ws := wsX1_hasMark) B.pre
  have hown : s.vm.findClass RX1 = some m.cls := findClass_of_methodNamed B.named
  have hlocks := B.notSynchronized
  subst hsz
  have hD := hD0.self (sz := s.heap.size)
  generalize hAe : va_A [(h_t, .inr (1, [.int t_genus, .int t_size, .ref h_t_powers, .int t_limit, .long t_tree]))] s.heap.size = A at hD ⊢
  have hA : ∀ q : Nat, s.heap.size ≤ q → A q := fun q h => by rw [← hAe]; exact Or.inr h
  have hS : va_S A s.heap s.heap [] := va_S.rf
  have hl := lv_entry ([.ref h_t, .int p0]) (n := 2) (Nat.le_of_ble_eq_true rfl)
  rw [lg_entry_eq]
  generalize (lg_sl ([.ref h_t, .int p0]) ++ List.replicate (2 - (lg_sl ([.ref h_t, .int p0])).length) Slot.unset).toArray = ls at hl ⊢
  have hl : lv_has ls 2 [(0, .ref h_t), (1, .int p0)] := hl
  have hinX1 : ∀ w ∈ wsX10, w ∈ wsX1_hasMark := in_X1_hasMark_X1
  have h := hF
  unfold F_X1_hasMark at h
  refine lv_iload_n hx hb dX1_hasMark_0 rfl (lv_at hl 1 rfl) ?_
  refine lv_if_lt (tgt := 16) hx hb dX1_hasMark_1 (by decide) (fun c1 => ?_) (fun c1 => ?_)
  · have h := it_p h c1
    refine lv_iconst (v := (0 : Int32)) hx hb dX1_hasMark_16 (by decide) ?_
    cases h
    exact k_zret hx hb hr hlocks hP hS rfl rfl dX1_hasMark_17
  have h := it_n h c1
  refine lv_iload_n hx hb dX1_hasMark_4 rfl (lv_at hl 1 rfl) ?_
  refine lv_aload_n hx hb dX1_hasMark_5 rfl (lv_at hl 0 rfl) ?_
  refine va_get (D := G) (ci := 1) (v := .int t_size) (C := RX1) (T := TX1) (N := 5) hx hb hts hinX1 hown hK hP 0 rfl rfl 1 (by decide) (hts (.fieldLink RX1 22 "MarkedCurves$Desk" "size" "I") (List.mem_of_getElem? (i := 1) (by decide +kernel))) (fun _ h9 => h9) rfl dX1_hasMark_6 ?_
  refine lv_icmp_ge (tgt := 16) hx hb dX1_hasMark_9 (by decide) (fun c2 => ?_) (fun c2 => ?_)
  · have h := it_p h c2
    refine lv_iconst (v := (0 : Int32)) hx hb dX1_hasMark_16 (by decide) ?_
    cases h
    exact k_zret hx hb hr hlocks hP hS rfl rfl dX1_hasMark_17
  have h := it_n h c2
  refine lv_iconst (v := (1 : Int32)) hx hb dX1_hasMark_12 (by decide) ?_
  refine lv_goto (tgt := 17) hx hb dX1_hasMark_13 (by decide) ?_
  cases h
  exact k_zret hx hb hr hlocks hP hS rfl rfl dX1_hasMark_17

/-! X1_setPower -/
noncomputable def F_X1_setPower (a_t_powers : Nat → Int32) (p0 : Int32) (p1 : Int32) : Option ((Nat → Int32)) :=
  if p0 < 0 then (some a_t_powers) else (if (8 : Int32) ≤ p0 then (some a_t_powers) else (ck p0 8 (some (upd a_t_powers p0.toNatClampNeg p1))))
theorem in_X1_setPower_X1 : ∀ w ∈ wsX10, w ∈ wsX1_setPower := mem_r _ [2, 3, 4, 5, 6] (by decide +kernel)
set_option maxHeartbeats 4000000 in
set_option maxRecDepth 100000 in
theorem c_X1_setPower (l : Launch) (G : va_G) (cI cJ cD cH : ClassId) (sz : Nat) (h_t : Nat) (h_t_powers : Nat) (t_genus : Int32) (t_size : Int32) (t_limit : Int32) (t_tree : Int64) (a_t_powers : Nat → Int32) (p0 : Int32) (p1 : Int32) (w0 : Nat → Int32) (hF : F_X1_setPower a_t_powers p0 p1 = some w0) : Met l yX1_setPower wsX1_setPower ({ frames := 0, cells := 0, slots := 0, locals := 0 }) (k_pre G (k_T cI cJ cD cH) [(h_t, .inr (1, [.int t_genus, .int t_size, .ref h_t_powers, .int t_limit, .long t_tree])), (h_t_powers, .inl (cI, 8, .inl a_t_powers))] sz [.ref h_t, .int p0, .int p1]) (va_Qv (fun (_ : Unit) => True) (fun _ t => va_P G vwCl [(h_t, .inr (1, [.int t_genus, .int t_size, .ref h_t_powers, .int t_limit, .long t_tree])), (h_t_powers, .inl (cI, 8, .inl w0))] t.heap) (va_A [(h_t, .inr (1, [.int t_genus, .int t_size, .ref h_t_powers, .int t_limit, .long t_tree])), (h_t_powers, .inl (cI, 8, .inl a_t_powers))] sz)) 0 0 (va_A [(h_t, .inr (1, [.int t_genus, .int t_size, .ref h_t_powers, .int t_limit, .long t_tree])), (h_t_powers, .inl (cI, 8, .inl a_t_powers))] sz) := by
  refine Met.ofW (cc := cX1_setPower) (maxL := 3) (ret := none) (by decide) rfl ?_
  intro p e s m args below meth c s₁ B hml hv
  obtain ⟨rfl, hsz, hP, hK, hD0⟩ := hv
  have hx := B.exec
  have hb := B.bytes
  have hr := B.returns
  have hts := atoms_spec (ws := wsX1_setPower) B.pre
  have hown : s.vm.findClass RX1 = some m.cls := findClass_of_methodNamed B.named
  have hlocks := B.notSynchronized
  subst hsz
  have hD := hD0.self (sz := s.heap.size)
  generalize hAe : va_A [(h_t, .inr (1, [.int t_genus, .int t_size, .ref h_t_powers, .int t_limit, .long t_tree])), (h_t_powers, .inl (cI, 8, .inl a_t_powers))] s.heap.size = A at hD ⊢
  have hA : ∀ q : Nat, s.heap.size ≤ q → A q := fun q h => by rw [← hAe]; exact Or.inr h
  have hS : va_S A s.heap s.heap [] := va_S.rf
  have hl := lv_entry ([.ref h_t, .int p0, .int p1]) (n := 3) (Nat.le_of_ble_eq_true rfl)
  rw [lg_entry_eq]
  generalize (lg_sl ([.ref h_t, .int p0, .int p1]) ++ List.replicate (3 - (lg_sl ([.ref h_t, .int p0, .int p1])).length) Slot.unset).toArray = ls at hl ⊢
  have hl : lv_has ls 3 [(0, .ref h_t), (1, .int p0), (2, .int p1)] := hl
  have hinX1 : ∀ w ∈ wsX10, w ∈ wsX1_setPower := in_X1_setPower_X1
  have h := hF
  unfold F_X1_setPower at h
  refine lv_iload_n hx hb dX1_setPower_0 rfl (lv_at hl 1 rfl) ?_
  refine lv_if_lt (tgt := 17) hx hb dX1_setPower_1 (by decide) (fun c1 => ?_) (fun c1 => ?_)
  · have h := it_p h c1
    cases h
    exact k_vret hx hb hr hlocks hP hS dX1_setPower_17
  have h := it_n h c1
  refine lv_iload_n hx hb dX1_setPower_4 rfl (lv_at hl 1 rfl) ?_
  refine lv_bipush (v := (8 : Int32)) hx hb dX1_setPower_5 (by decide) ?_
  refine lv_icmp_ge (tgt := 17) hx hb dX1_setPower_7 (by decide) (fun c2 => ?_) (fun c2 => ?_)
  · have h := it_p h c2
    cases h
    exact k_vret hx hb hr hlocks hP hS dX1_setPower_17
  have h := it_n h c2
  refine lv_aload_n hx hb dX1_setPower_10 rfl (lv_at hl 0 rfl) ?_
  refine va_get (D := G) (ci := 1) (v := .ref h_t_powers) (C := RX1) (T := TX1) (N := 5) hx hb hts hinX1 hown hK hP 0 rfl rfl 2 (by decide) (hts (.fieldLink RX1 9 "MarkedCurves$Desk" "powers" "[I") (List.mem_of_getElem? (i := 1) (by decide +kernel))) (fun _ h9 => h9) rfl dX1_setPower_11 ?_
  refine lv_iload_n hx hb dX1_setPower_14 rfl (lv_at hl 1 rfl) ?_
  refine lv_iload_n hx hb dX1_setPower_15 rfl (lv_at hl 2 rfl) ?_
  obtain ⟨hn3, h⟩ := ck_e h
  refine va_iast hx hb hK hP hD hS 1 0 rfl rfl hn3 dX1_setPower_16 (fun H locs hP hD hS => ?_)
  have hP : va_P G vwCl [(h_t, .inr (1, [.int t_genus, .int t_size, .ref h_t_powers, .int t_limit, .long t_tree])), (h_t_powers, .inl (cI, 8, .inl (upd a_t_powers p0.toNatClampNeg p1)))] H := hP
  have hD : va_D A [(h_t, .inr (1, [.int t_genus, .int t_size, .ref h_t_powers, .int t_limit, .long t_tree])), (h_t_powers, .inl (cI, 8, .inl (upd a_t_powers p0.toNatClampNeg p1)))] := hD
  cases h
  exact k_vret hx hb hr hlocks hP hS dX1_setPower_17

/-! X1_addMark -/
noncomputable def F_X1_addMark (t_size : Int32) (a_t_powers : Nat → Int32) (p0 : Int32) : Option ((Nat → Int32) × Int32) :=
  if (8 : Int32) ≤ t_size then (some (a_t_powers, t_size)) else (bd (F_X1_setPower a_t_powers t_size p0) (fun x2 => some (x2, (t_size + (1 : Int32)))))
theorem in_X1_addMark_X1 : ∀ w ∈ wsX10, w ∈ wsX1_addMark := mem_r _ [8, 9, 10, 11, 12] (by decide +kernel)
set_option maxHeartbeats 4000000 in
set_option maxRecDepth 100000 in
theorem c_X1_addMark (l : Launch) (G : va_G) (cI cJ cD cH : ClassId) (sz : Nat) (h_t : Nat) (h_t_powers : Nat) (t_genus : Int32) (t_size : Int32) (t_limit : Int32) (t_tree : Int64) (a_t_powers : Nat → Int32) (p0 : Int32) (w0 : Nat → Int32) (w1 : Int32) (hF : F_X1_addMark t_size a_t_powers p0 = some (w0, w1)) : Met l yX1_addMark wsX1_addMark ({ frames := 1, cells := 0, slots := 0, locals := 22 }) (k_pre G (k_T cI cJ cD cH) [(h_t, .inr (1, [.int t_genus, .int t_size, .ref h_t_powers, .int t_limit, .long t_tree])), (h_t_powers, .inl (cI, 8, .inl a_t_powers))] sz [.ref h_t, .int p0]) (va_Qv (fun (_ : Unit) => True) (fun _ t => va_P G vwCl [(h_t, .inr (1, [.int t_genus, .int w1, .ref h_t_powers, .int t_limit, .long t_tree])), (h_t_powers, .inl (cI, 8, .inl w0))] t.heap) (va_A [(h_t, .inr (1, [.int t_genus, .int t_size, .ref h_t_powers, .int t_limit, .long t_tree])), (h_t_powers, .inl (cI, 8, .inl a_t_powers))] sz)) 0 0 (va_A [(h_t, .inr (1, [.int t_genus, .int t_size, .ref h_t_powers, .int t_limit, .long t_tree])), (h_t_powers, .inl (cI, 8, .inl a_t_powers))] sz) := by
  refine Met.ofW (cc := cX1_addMark) (maxL := 2) (ret := none) (by decide) rfl ?_
  intro p e s m args below meth c s₁ B hml hv
  obtain ⟨rfl, hsz, hP, hK, hD0⟩ := hv
  have hx := B.exec
  have hb := B.bytes
  have hr := B.returns
  have hts := atoms_spec (ws := wsX1_addMark) B.pre
  have hown : s.vm.findClass RX1 = some m.cls := findClass_of_methodNamed B.named
  have hlocks := B.notSynchronized
  subst hsz
  have hD := hD0.self (sz := s.heap.size)
  generalize hAe : va_A [(h_t, .inr (1, [.int t_genus, .int t_size, .ref h_t_powers, .int t_limit, .long t_tree])), (h_t_powers, .inl (cI, 8, .inl a_t_powers))] s.heap.size = A at hD ⊢
  have hA : ∀ q : Nat, s.heap.size ≤ q → A q := fun q h => by rw [← hAe]; exact Or.inr h
  have hS : va_S A s.heap s.heap [] := va_S.rf
  have hl := lv_entry ([.ref h_t, .int p0]) (n := 2) (Nat.le_of_ble_eq_true rfl)
  rw [lg_entry_eq]
  generalize (lg_sl ([.ref h_t, .int p0]) ++ List.replicate (2 - (lg_sl ([.ref h_t, .int p0])).length) Slot.unset).toArray = ls at hl ⊢
  have hl : lv_has ls 2 [(0, .ref h_t), (1, .int p0)] := hl
  have hinX1 : ∀ w ∈ wsX10, w ∈ wsX1_addMark := in_X1_addMark_X1
  have h := hF
  unfold F_X1_addMark at h
  refine lv_aload_n hx hb dX1_addMark_0 rfl (lv_at hl 0 rfl) ?_
  refine va_get (D := G) (ci := 1) (v := .int t_size) (C := RX1) (T := TX1) (N := 5) hx hb hts hinX1 hown hK hP 0 rfl rfl 1 (by decide) (hts (.fieldLink RX1 22 "MarkedCurves$Desk" "size" "I") (List.mem_of_getElem? (i := 1) (by decide +kernel))) (fun _ h9 => h9) rfl dX1_addMark_1 ?_
  refine lv_bipush (v := (8 : Int32)) hx hb dX1_addMark_4 (by decide) ?_
  refine lv_icmp_ge (tgt := 28) hx hb dX1_addMark_6 (by decide) (fun c1 => ?_) (fun c1 => ?_)
  · have h := it_p h c1
    cases h
    exact k_vret hx hb hr hlocks hP hS dX1_addMark_28
  have h := it_n h c1
  refine lv_aload_n hx hb dX1_addMark_9 rfl (lv_at hl 0 rfl) ?_
  refine lv_aload_n hx hb dX1_addMark_10 rfl (lv_at hl 0 rfl) ?_
  refine va_get (D := G) (ci := 1) (v := .int t_size) (C := RX1) (T := TX1) (N := 5) hx hb hts hinX1 hown hK hP 0 rfl rfl 1 (by decide) (hts (.fieldLink RX1 22 "MarkedCurves$Desk" "size" "I") (List.mem_of_getElem? (i := 1) (by decide +kernel))) (fun _ h9 => h9) rfl dX1_addMark_11 ?_
  refine lv_iload_n hx hb dX1_addMark_14 rfl (lv_at hl 1 rfl) ?_
  obtain ⟨x2, hx2, h⟩ := bd_e h
  try dsimp only at h
  refine k_Vv (n := 2) (As := [.int t_size, .int p0]) (rest := []) hx hb hml hown hts (c_X1_setPower l G cI cJ cD cH s.heap.size h_t h_t_powers t_genus t_size t_limit t_tree a_t_powers t_size p0 x2 hx2) gX1_addMark_X1_setPower rfl rfl rfl (by decide +kernel) ⟨by first | exact Nat.le_of_ble_eq_true rfl | (simp only [headSpec]; omega), by first | exact Nat.le_of_ble_eq_true rfl | (simp only [headSpec]; omega)⟩ hK hP hD hS hA [0, 1] (by decide) rfl rfl (ci := 1) rfl rfl rfl rfl rfl hl.1 (Nat.le_of_ble_eq_true rfl) dX1_addMark_15 ⟨Nat.zero_le _, Nat.zero_le _⟩ [(h_t, .inr (1, [.int t_genus, .int t_size, .ref h_t_powers, .int t_limit, .long t_tree])), (h_t_powers, .inl (cI, 8, .inl x2))] [] 2 rfl rfl rfl (by decide +kernel) rfl (fun hp2 H locs hP hD hS => ?_)
  refine lv_aload_n hx hb dX1_addMark_18 rfl (lv_at hl 0 rfl) ?_
  refine lv_dup hx hb dX1_addMark_19 rfl ?_
  refine va_get (D := G) (ci := 1) (v := .int t_size) (C := RX1) (T := TX1) (N := 5) hx hb hts hinX1 hown hK hP 0 rfl rfl 1 (by decide) (hts (.fieldLink RX1 22 "MarkedCurves$Desk" "size" "I") (List.mem_of_getElem? (i := 1) (by decide +kernel))) (fun _ h9 => h9) rfl dX1_addMark_20 ?_
  refine lv_iconst (v := (1 : Int32)) hx hb dX1_addMark_23 (by decide) ?_
  refine lv_iadd hx hb dX1_addMark_24 ?_
  refine va_put (D := G) (ci := 1) (v := .int (t_size + (1 : Int32))) (ty := .int) (C := RX1) (T := TX1) (N := 5) hx hb hts hinX1 tyX1 tyX1_ok nmX1 hown hK hP hD hS 0 rfl rfl 1 (by decide) (hts (.fieldLink RX1 22 "MarkedCurves$Desk" "size" "I") (List.mem_of_getElem? (i := 1) (by decide +kernel))) (fun _ h9 => h9) rfl (by decide +kernel) rfl rfl (Nat.le_of_ble_eq_true rfl) dX1_addMark_25 (fun H locs hP hD hS => ?_)
  have hP : va_P G vwCl [(h_t, .inr (1, [.int t_genus, .int (t_size + (1 : Int32)), .ref h_t_powers, .int t_limit, .long t_tree])), (h_t_powers, .inl (cI, 8, .inl x2))] H := hP
  have hD : va_D A [(h_t, .inr (1, [.int t_genus, .int (t_size + (1 : Int32)), .ref h_t_powers, .int t_limit, .long t_tree])), (h_t_powers, .inl (cI, 8, .inl x2))] := hD
  cases h
  exact k_vret hx hb hr hlocks hP hS dX1_addMark_28

/-! X1_dropMark -/
noncomputable def K_X1_dropMark_2_30 (t_size : Int32) (vK2_30_0 : Nat → Int32) : Option ((Nat → Int32) × Int32) :=
  some (vK2_30_0, (t_size - (1 : Int32)))
noncomputable def B_X1_dropMark_2 (t_size : Int32) (kk2_30 : (Nat → Int32) → Option ((Nat → Int32) × Int32)) (vL2_0 : Nat → Int32) (vL2_1 : Int32) (ag2 : (Nat → Int32) → Int32 → Option ((Nat → Int32) × Int32)) : Option ((Nat → Int32) × Int32) :=
  if (t_size - (1 : Int32)) ≤ vL2_1 then (kk2_30 vL2_0) else (bd (F_X1_powerAt vL2_0 (vL2_1 + (1 : Int32))) (fun x2 => bd (F_X1_setPower vL2_0 vL2_1 x2) (fun x3 => ag2 x3 (vL2_1 + (1 : Int32)))))
noncomputable def F_X1_dropMark (t_size : Int32) (a_t_powers : Nat → Int32) (p0 : Int32) : Option ((Nat → Int32) × Int32) :=
  wq2 (B_X1_dropMark_2 t_size (K_X1_dropMark_2_30 t_size)) FU a_t_powers p0
theorem in_X1_dropMark_X1 : ∀ w ∈ wsX10, w ∈ wsX1_dropMark := mem_r _ [12, 13, 14, 15, 16] (by decide +kernel)
set_option maxHeartbeats 4000000 in
set_option maxRecDepth 100000 in
theorem c_X1_dropMark (l : Launch) (G : va_G) (cI cJ cD cH : ClassId) (sz : Nat) (h_t : Nat) (h_t_powers : Nat) (t_genus : Int32) (t_size : Int32) (t_limit : Int32) (t_tree : Int64) (a_t_powers : Nat → Int32) (p0 : Int32) (w0 : Nat → Int32) (w1 : Int32) (hF : F_X1_dropMark t_size a_t_powers p0 = some (w0, w1)) : Met l yX1_dropMark wsX1_dropMark ({ frames := 1, cells := 0, slots := 0, locals := 22 }) (k_pre G (k_T cI cJ cD cH) [(h_t, .inr (1, [.int t_genus, .int t_size, .ref h_t_powers, .int t_limit, .long t_tree])), (h_t_powers, .inl (cI, 8, .inl a_t_powers))] sz [.ref h_t, .int p0]) (va_Qv (fun (_ : Unit) => True) (fun _ t => va_P G vwCl [(h_t, .inr (1, [.int t_genus, .int w1, .ref h_t_powers, .int t_limit, .long t_tree])), (h_t_powers, .inl (cI, 8, .inl w0))] t.heap) (va_A [(h_t, .inr (1, [.int t_genus, .int t_size, .ref h_t_powers, .int t_limit, .long t_tree])), (h_t_powers, .inl (cI, 8, .inl a_t_powers))] sz)) 0 0 (va_A [(h_t, .inr (1, [.int t_genus, .int t_size, .ref h_t_powers, .int t_limit, .long t_tree])), (h_t_powers, .inl (cI, 8, .inl a_t_powers))] sz) := by
  refine Met.ofW (cc := cX1_dropMark) (maxL := 3) (ret := none) (by decide) rfl ?_
  intro p e s m args below meth c s₁ B hml hv
  obtain ⟨rfl, hsz, hP, hK, hD0⟩ := hv
  have hx := B.exec
  have hb := B.bytes
  have hr := B.returns
  have hts := atoms_spec (ws := wsX1_dropMark) B.pre
  have hown : s.vm.findClass RX1 = some m.cls := findClass_of_methodNamed B.named
  have hlocks := B.notSynchronized
  subst hsz
  have hD := hD0.self (sz := s.heap.size)
  generalize hAe : va_A [(h_t, .inr (1, [.int t_genus, .int t_size, .ref h_t_powers, .int t_limit, .long t_tree])), (h_t_powers, .inl (cI, 8, .inl a_t_powers))] s.heap.size = A at hD ⊢
  have hA : ∀ q : Nat, s.heap.size ≤ q → A q := fun q h => by rw [← hAe]; exact Or.inr h
  have hS : va_S A s.heap s.heap [] := va_S.rf
  have hl := lv_entry ([.ref h_t, .int p0]) (n := 3) (Nat.le_of_ble_eq_true rfl)
  rw [lg_entry_eq]
  generalize (lg_sl ([.ref h_t, .int p0]) ++ List.replicate (3 - (lg_sl ([.ref h_t, .int p0])).length) Slot.unset).toArray = ls at hl ⊢
  have hl : lv_has ls 3 [(0, .ref h_t), (1, .int p0)] := hl
  have hinX1 : ∀ w ∈ wsX10, w ∈ wsX1_dropMark := in_X1_dropMark_X1
  have h := hF
  unfold F_X1_dropMark at h
  refine lv_iload_n hx hb dX1_dropMark_0 rfl (lv_at hl 1 rfl) ?_
  refine lv_istore_n (lv' := [(2, .int p0), (0, .ref h_t), (1, .int p0)]) hx hb dX1_dropMark_1 rfl hl (by decide) rfl (fun ls hl => ?_)
  have hK_X1_dropMark_2_30 : ∀  (vK2_30_0 : Nat → Int32) (H : Heap) (locs : List Loc) (ls : Array Slot), va_P G vwCl [(h_t, .inr (1, [.int t_genus, .int t_size, .ref h_t_powers, .int t_limit, .long t_tree])), (h_t_powers, .inl (cI, 8, .inl vK2_30_0))] H → va_D A [(h_t, .inr (1, [.int t_genus, .int t_size, .ref h_t_powers, .int t_limit, .long t_tree])), (h_t_powers, .inl (cI, 8, .inl vK2_30_0))] → va_S A s.heap H locs → lv_has ls 3 [(0, .ref h_t)] → K_X1_dropMark_2_30 t_size vK2_30_0 = some (w0, w1) → W p l e (headSpec wsX1_dropMark ({ frames := 1, cells := 0, slots := 0, locals := 22 })).room s m ([.ref h_t, .int p0] : List Value).toArray below meth c H locs 0 0 (MQ below (va_Qv (fun (_ : Unit) => True) (fun _ t => va_P G vwCl [(h_t, .inr (1, [.int t_genus, .int w1, .ref h_t_powers, .int t_limit, .long t_tree])), (h_t_powers, .inl (cI, 8, .inl w0))] t.heap) A) ([.ref h_t, .int p0] : List Value).toArray s 0 0 A) (F0 m 30 ls []) := by
    intro vK2_30_0 H locs ls hP hD hS hl h
    unfold K_X1_dropMark_2_30 at h
    refine lv_aload_n hx hb dX1_dropMark_30 rfl (lv_at hl 0 rfl) ?_
    refine lv_dup hx hb dX1_dropMark_31 rfl ?_
    refine va_get (D := G) (ci := 1) (v := .int t_size) (C := RX1) (T := TX1) (N := 5) hx hb hts hinX1 hown hK hP 0 rfl rfl 1 (by decide) (hts (.fieldLink RX1 22 "MarkedCurves$Desk" "size" "I") (List.mem_of_getElem? (i := 1) (by decide +kernel))) (fun _ h9 => h9) rfl dX1_dropMark_32 ?_
    refine lv_iconst (v := (1 : Int32)) hx hb dX1_dropMark_35 (by decide) ?_
    refine lv_isub hx hb dX1_dropMark_36 ?_
    refine va_put (D := G) (ci := 1) (v := .int (t_size - (1 : Int32))) (ty := .int) (C := RX1) (T := TX1) (N := 5) hx hb hts hinX1 tyX1 tyX1_ok nmX1 hown hK hP hD hS 0 rfl rfl 1 (by decide) (hts (.fieldLink RX1 22 "MarkedCurves$Desk" "size" "I") (List.mem_of_getElem? (i := 1) (by decide +kernel))) (fun _ h9 => h9) rfl (by decide +kernel) rfl rfl (Nat.le_of_ble_eq_true rfl) dX1_dropMark_37 (fun H locs hP hD hS => ?_)
    have hP : va_P G vwCl [(h_t, .inr (1, [.int t_genus, .int (t_size - (1 : Int32)), .ref h_t_powers, .int t_limit, .long t_tree])), (h_t_powers, .inl (cI, 8, .inl vK2_30_0))] H := hP
    have hD : va_D A [(h_t, .inr (1, [.int t_genus, .int (t_size - (1 : Int32)), .ref h_t_powers, .int t_limit, .long t_tree])), (h_t_powers, .inl (cI, 8, .inl vK2_30_0))] := hD
    cases h
    exact k_vret hx hb hr hlocks hP hS dX1_dropMark_40
  have hL2 : ∀ (n2 : Nat) (vL2_0 : Nat → Int32) (vL2_1 : Int32) (H : Heap) (locs : List Loc) (ls : Array Slot), va_P G vwCl [(h_t, .inr (1, [.int t_genus, .int t_size, .ref h_t_powers, .int t_limit, .long t_tree])), (h_t_powers, .inl (cI, 8, .inl vL2_0))] H → va_D A [(h_t, .inr (1, [.int t_genus, .int t_size, .ref h_t_powers, .int t_limit, .long t_tree])), (h_t_powers, .inl (cI, 8, .inl vL2_0))] → va_S A s.heap H locs → lv_has ls 3 [(0, .ref h_t), (2, .int vL2_1)] → wq2 (B_X1_dropMark_2 t_size (K_X1_dropMark_2_30 t_size)) n2 vL2_0 vL2_1 = some (w0, w1) → W p l e (headSpec wsX1_dropMark ({ frames := 1, cells := 0, slots := 0, locals := 22 })).room s m ([.ref h_t, .int p0] : List Value).toArray below meth c H locs 0 0 (MQ below (va_Qv (fun (_ : Unit) => True) (fun _ t => va_P G vwCl [(h_t, .inr (1, [.int t_genus, .int w1, .ref h_t_powers, .int t_limit, .long t_tree])), (h_t_powers, .inl (cI, 8, .inl w0))] t.heap) A) ([.ref h_t, .int p0] : List Value).toArray s 0 0 A) (F0 m 2 ls []) := by
    intro n2
    induction n2 with
    | zero => intro vL2_0 vL2_1 H locs ls hP hD hS hl h; exact wq2_0 h
    | succ n2 ih2 =>
      intro vL2_0 vL2_1 H locs ls hP hD hS hl h
      have h := wq2_s h
      unfold B_X1_dropMark_2 at h
      refine lv_iload_n hx hb dX1_dropMark_2 rfl (lv_at hl 1 rfl) ?_
      refine lv_aload_n hx hb dX1_dropMark_3 rfl (lv_at hl 0 rfl) ?_
      refine va_get (D := G) (ci := 1) (v := .int t_size) (C := RX1) (T := TX1) (N := 5) hx hb hts hinX1 hown hK hP 0 rfl rfl 1 (by decide) (hts (.fieldLink RX1 22 "MarkedCurves$Desk" "size" "I") (List.mem_of_getElem? (i := 1) (by decide +kernel))) (fun _ h9 => h9) rfl dX1_dropMark_4 ?_
      refine lv_iconst (v := (1 : Int32)) hx hb dX1_dropMark_7 (by decide) ?_
      refine lv_isub hx hb dX1_dropMark_8 ?_
      refine lv_icmp_ge (tgt := 30) hx hb dX1_dropMark_9 (by decide) (fun c1 => ?_) (fun c1 => ?_)
      · have h := it_p h c1
        exact hK_X1_dropMark_2_30 vL2_0 _ _ _ hP hD hS (lv_sub hl [0] rfl) h
      have h := it_n h c1
      refine lv_aload_n hx hb dX1_dropMark_12 rfl (lv_at hl 0 rfl) ?_
      refine lv_iload_n hx hb dX1_dropMark_13 rfl (lv_at hl 1 rfl) ?_
      refine lv_aload_n hx hb dX1_dropMark_14 rfl (lv_at hl 0 rfl) ?_
      refine lv_iload_n hx hb dX1_dropMark_15 rfl (lv_at hl 1 rfl) ?_
      refine lv_iconst (v := (1 : Int32)) hx hb dX1_dropMark_16 (by decide) ?_
      refine lv_iadd hx hb dX1_dropMark_17 ?_
      obtain ⟨x2, hx2, h⟩ := bd_e h
      try dsimp only at h
      refine k_ViU (n := 1) (As := [.int (vL2_1 + (1 : Int32))]) (rest := [.int vL2_1, .ref h_t]) hx hb hml hown hts (c_X1_powerAt l G cI cJ cD cH H.size h_t h_t_powers t_genus t_size t_limit t_tree vL2_0 (vL2_1 + (1 : Int32)) x2 hx2) gX1_dropMark_X1_powerAt rfl rfl rfl (by decide +kernel) ⟨by first | exact Nat.le_of_ble_eq_true rfl | (simp only [headSpec]; omega), by first | exact Nat.le_of_ble_eq_true rfl | (simp only [headSpec]; omega)⟩ hK hP hD hS hA [0, 1] (by decide) rfl (ci := 1) rfl rfl rfl rfl rfl hl.1 (Nat.le_of_ble_eq_true rfl) dX1_dropMark_18 ⟨Nat.zero_le _, Nat.zero_le _⟩ (fun hp2 H locs hP hS => ?_)
      obtain ⟨x3, hx3, h⟩ := bd_e h
      try dsimp only at h
      refine k_Vv (n := 2) (As := [.int vL2_1, .int x2]) (rest := []) hx hb hml hown hts (c_X1_setPower l G cI cJ cD cH H.size h_t h_t_powers t_genus t_size t_limit t_tree vL2_0 vL2_1 x2 x3 hx3) gX1_dropMark_X1_setPower rfl rfl rfl (by decide +kernel) ⟨by first | exact Nat.le_of_ble_eq_true rfl | (simp only [headSpec]; omega), by first | exact Nat.le_of_ble_eq_true rfl | (simp only [headSpec]; omega)⟩ hK hP hD hS hA [0, 1] (by decide) rfl rfl (ci := 1) rfl rfl rfl rfl rfl hl.1 (Nat.le_of_ble_eq_true rfl) dX1_dropMark_21 ⟨Nat.zero_le _, Nat.zero_le _⟩ [(h_t, .inr (1, [.int t_genus, .int t_size, .ref h_t_powers, .int t_limit, .long t_tree])), (h_t_powers, .inl (cI, 8, .inl x3))] [] 2 rfl rfl rfl (by decide +kernel) rfl (fun hp3 H locs hP hD hS => ?_)
      refine lv_iinc (v := (vL2_1 + (1 : Int32))) (lv' := [(2, .int (vL2_1 + (1 : Int32))), (0, .ref h_t)]) hx hb dX1_dropMark_24 hl (k := 1) rfl (by first | rfl | decide) (by decide) rfl (fun ls hl => ?_)
      refine lv_goto (tgt := 2) hx hb dX1_dropMark_27 (by decide) ?_
      exact ih2 x3 (vL2_1 + (1 : Int32)) _ _ _ hP hD hS (lv_sub hl [1, 0] rfl) h
  exact hL2 FU a_t_powers p0 _ _ _ hP hD hS (lv_sub hl [1, 0] rfl) h

/-! X1_swap -/
noncomputable def F_X1_swap (a_t_powers : Nat → Int32) (p0 : Int32) (p1 : Int32) : Option ((Nat → Int32)) :=
  bd (F_X1_powerAt a_t_powers p0) (fun x1 => bd (F_X1_powerAt a_t_powers p1) (fun x2 => bd (F_X1_setPower a_t_powers p0 x2) (fun x3 => bd (F_X1_setPower x3 p1 x1) (fun x4 => some x4))))
set_option maxHeartbeats 4000000 in
set_option maxRecDepth 100000 in
theorem c_X1_swap (l : Launch) (G : va_G) (cI cJ cD cH : ClassId) (sz : Nat) (h_t : Nat) (h_t_powers : Nat) (t_genus : Int32) (t_size : Int32) (t_limit : Int32) (t_tree : Int64) (a_t_powers : Nat → Int32) (p0 : Int32) (p1 : Int32) (w0 : Nat → Int32) (hF : F_X1_swap a_t_powers p0 p1 = some w0) : Met l yX1_swap wsX1_swap ({ frames := 1, cells := 0, slots := 0, locals := 22 }) (k_pre G (k_T cI cJ cD cH) [(h_t, .inr (1, [.int t_genus, .int t_size, .ref h_t_powers, .int t_limit, .long t_tree])), (h_t_powers, .inl (cI, 8, .inl a_t_powers))] sz [.ref h_t, .int p0, .int p1]) (va_Qv (fun (_ : Unit) => True) (fun _ t => va_P G vwCl [(h_t, .inr (1, [.int t_genus, .int t_size, .ref h_t_powers, .int t_limit, .long t_tree])), (h_t_powers, .inl (cI, 8, .inl w0))] t.heap) (va_A [(h_t, .inr (1, [.int t_genus, .int t_size, .ref h_t_powers, .int t_limit, .long t_tree])), (h_t_powers, .inl (cI, 8, .inl a_t_powers))] sz)) 0 0 (va_A [(h_t, .inr (1, [.int t_genus, .int t_size, .ref h_t_powers, .int t_limit, .long t_tree])), (h_t_powers, .inl (cI, 8, .inl a_t_powers))] sz) := by
  refine Met.ofW (cc := cX1_swap) (maxL := 4) (ret := none) (by decide) rfl ?_
  intro p e s m args below meth c s₁ B hml hv
  obtain ⟨rfl, hsz, hP, hK, hD0⟩ := hv
  have hx := B.exec
  have hb := B.bytes
  have hr := B.returns
  have hts := atoms_spec (ws := wsX1_swap) B.pre
  have hown : s.vm.findClass RX1 = some m.cls := findClass_of_methodNamed B.named
  have hlocks := B.notSynchronized
  subst hsz
  have hD := hD0.self (sz := s.heap.size)
  generalize hAe : va_A [(h_t, .inr (1, [.int t_genus, .int t_size, .ref h_t_powers, .int t_limit, .long t_tree])), (h_t_powers, .inl (cI, 8, .inl a_t_powers))] s.heap.size = A at hD ⊢
  have hA : ∀ q : Nat, s.heap.size ≤ q → A q := fun q h => by rw [← hAe]; exact Or.inr h
  have hS : va_S A s.heap s.heap [] := va_S.rf
  have hl := lv_entry ([.ref h_t, .int p0, .int p1]) (n := 4) (Nat.le_of_ble_eq_true rfl)
  rw [lg_entry_eq]
  generalize (lg_sl ([.ref h_t, .int p0, .int p1]) ++ List.replicate (4 - (lg_sl ([.ref h_t, .int p0, .int p1])).length) Slot.unset).toArray = ls at hl ⊢
  have hl : lv_has ls 4 [(0, .ref h_t), (1, .int p0), (2, .int p1)] := hl
  have h := hF
  unfold F_X1_swap at h
  refine lv_aload_n hx hb dX1_swap_0 rfl (lv_at hl 0 rfl) ?_
  refine lv_iload_n hx hb dX1_swap_1 rfl (lv_at hl 1 rfl) ?_
  obtain ⟨x1, hx1, h⟩ := bd_e h
  try dsimp only at h
  refine k_ViU (n := 1) (As := [.int p0]) (rest := []) hx hb hml hown hts (c_X1_powerAt l G cI cJ cD cH s.heap.size h_t h_t_powers t_genus t_size t_limit t_tree a_t_powers p0 x1 hx1) gX1_swap_X1_powerAt rfl rfl rfl (by decide +kernel) ⟨by first | exact Nat.le_of_ble_eq_true rfl | (simp only [headSpec]; omega), by first | exact Nat.le_of_ble_eq_true rfl | (simp only [headSpec]; omega)⟩ hK hP hD hS hA [0, 1] (by decide) rfl (ci := 1) rfl rfl rfl rfl rfl hl.1 (Nat.le_of_ble_eq_true rfl) dX1_swap_2 ⟨Nat.zero_le _, Nat.zero_le _⟩ (fun hp1 H locs hP hS => ?_)
  refine lv_istore_n (lv' := [(3, .int x1), (0, .ref h_t), (1, .int p0), (2, .int p1)]) hx hb dX1_swap_5 rfl hl (by decide) rfl (fun ls hl => ?_)
  refine lv_aload_n hx hb dX1_swap_6 rfl (lv_at hl 1 rfl) ?_
  refine lv_iload_n hx hb dX1_swap_7 rfl (lv_at hl 2 rfl) ?_
  refine lv_aload_n hx hb dX1_swap_8 rfl (lv_at hl 1 rfl) ?_
  refine lv_iload_n hx hb dX1_swap_9 rfl (lv_at hl 3 rfl) ?_
  obtain ⟨x2, hx2, h⟩ := bd_e h
  try dsimp only at h
  refine k_ViU (n := 1) (As := [.int p1]) (rest := [.int p0, .ref h_t]) hx hb hml hown hts (c_X1_powerAt l G cI cJ cD cH H.size h_t h_t_powers t_genus t_size t_limit t_tree a_t_powers p1 x2 hx2) gX1_swap_X1_powerAt rfl rfl rfl (by decide +kernel) ⟨by first | exact Nat.le_of_ble_eq_true rfl | (simp only [headSpec]; omega), by first | exact Nat.le_of_ble_eq_true rfl | (simp only [headSpec]; omega)⟩ hK hP hD hS hA [0, 1] (by decide) rfl (ci := 1) rfl rfl rfl rfl rfl hl.1 (Nat.le_of_ble_eq_true rfl) dX1_swap_10 ⟨Nat.zero_le _, Nat.zero_le _⟩ (fun hp2 H locs hP hS => ?_)
  obtain ⟨x3, hx3, h⟩ := bd_e h
  try dsimp only at h
  refine k_Vv (n := 2) (As := [.int p0, .int x2]) (rest := []) hx hb hml hown hts (c_X1_setPower l G cI cJ cD cH H.size h_t h_t_powers t_genus t_size t_limit t_tree a_t_powers p0 x2 x3 hx3) gX1_swap_X1_setPower rfl rfl rfl (by decide +kernel) ⟨by first | exact Nat.le_of_ble_eq_true rfl | (simp only [headSpec]; omega), by first | exact Nat.le_of_ble_eq_true rfl | (simp only [headSpec]; omega)⟩ hK hP hD hS hA [0, 1] (by decide) rfl rfl (ci := 1) rfl rfl rfl rfl rfl hl.1 (Nat.le_of_ble_eq_true rfl) dX1_swap_13 ⟨Nat.zero_le _, Nat.zero_le _⟩ [(h_t, .inr (1, [.int t_genus, .int t_size, .ref h_t_powers, .int t_limit, .long t_tree])), (h_t_powers, .inl (cI, 8, .inl x3))] [] 2 rfl rfl rfl (by decide +kernel) rfl (fun hp3 H locs hP hD hS => ?_)
  refine lv_aload_n hx hb dX1_swap_16 rfl (lv_at hl 1 rfl) ?_
  refine lv_iload_n hx hb dX1_swap_17 rfl (lv_at hl 3 rfl) ?_
  refine lv_iload_n hx hb dX1_swap_18 rfl (lv_at hl 0 rfl) ?_
  obtain ⟨x4, hx4, h⟩ := bd_e h
  try dsimp only at h
  refine k_Vv (n := 2) (As := [.int p1, .int x1]) (rest := []) hx hb hml hown hts (c_X1_setPower l G cI cJ cD cH H.size h_t h_t_powers t_genus t_size t_limit t_tree x3 p1 x1 x4 hx4) gX1_swap_X1_setPower rfl rfl rfl (by decide +kernel) ⟨by first | exact Nat.le_of_ble_eq_true rfl | (simp only [headSpec]; omega), by first | exact Nat.le_of_ble_eq_true rfl | (simp only [headSpec]; omega)⟩ hK hP hD hS hA [0, 1] (by decide) rfl rfl (ci := 1) rfl rfl rfl rfl rfl hl.1 (Nat.le_of_ble_eq_true rfl) dX1_swap_19 ⟨Nat.zero_le _, Nat.zero_le _⟩ [(h_t, .inr (1, [.int t_genus, .int t_size, .ref h_t_powers, .int t_limit, .long t_tree])), (h_t_powers, .inl (cI, 8, .inl x4))] [] 2 rfl rfl rfl (by decide +kernel) rfl (fun hp4 H locs hP hD hS => ?_)
  cases h
  exact k_vret hx hb hr hlocks hP hS dX1_swap_22

/-! X1_sortRising -/
noncomputable def K_X1_sortRising_7_53  (vK7_53_0 : Nat → Int32) : Option ((Nat → Int32)) :=
  some vK7_53_0
noncomputable def K_X1_sortRising_13_47 (vL7_1 : Int32) (ag7 : (Nat → Int32) → Int32 → Option ((Nat → Int32))) (vK13_47_0 : Nat → Int32) : Option ((Nat → Int32)) :=
  ag7 vK13_47_0 (vL7_1 + (-1 : Int32))
noncomputable def B_X1_sortRising_13 (vL7_1 : Int32) (kk13_47 : (Nat → Int32) → Option ((Nat → Int32))) (vL13_0 : Nat → Int32) (vL13_1 : Int32) (ag13 : (Nat → Int32) → Int32 → Option ((Nat → Int32))) : Option ((Nat → Int32)) :=
  if vL7_1 ≤ vL13_1 then (kk13_47 vL13_0) else (bd (F_X1_powerAt vL13_0 vL13_1) (fun x3 => bd (F_X1_powerAt vL13_0 (vL13_1 + (1 : Int32))) (fun x4 => if x3 ≤ x4 then (ag13 vL13_0 (vL13_1 + (1 : Int32))) else (bd (F_X1_swap vL13_0 vL13_1 (vL13_1 + (1 : Int32))) (fun x6 => ag13 x6 (vL13_1 + (1 : Int32)))))))
noncomputable def B_X1_sortRising_7  (kk7_53 : (Nat → Int32) → Option ((Nat → Int32))) (vL7_0 : Nat → Int32) (vL7_1 : Int32) (ag7 : (Nat → Int32) → Int32 → Option ((Nat → Int32))) : Option ((Nat → Int32)) :=
  if vL7_1 ≤ 0 then (kk7_53 vL7_0) else (wq2 (B_X1_sortRising_13 vL7_1 (K_X1_sortRising_13_47 vL7_1 ag7)) FU vL7_0 (0 : Int32))
noncomputable def F_X1_sortRising (t_size : Int32) (a_t_powers : Nat → Int32) : Option ((Nat → Int32)) :=
  wq2 (B_X1_sortRising_7 K_X1_sortRising_7_53) FU a_t_powers (t_size - (1 : Int32))
theorem in_X1_sortRising_X1 : ∀ w ∈ wsX10, w ∈ wsX1_sortRising := mem_r _ [16, 17, 18, 19, 20] (by decide +kernel)
set_option maxHeartbeats 4000000 in
set_option maxRecDepth 100000 in
theorem c_X1_sortRising (l : Launch) (G : va_G) (cI cJ cD cH : ClassId) (sz : Nat) (h_t : Nat) (h_t_powers : Nat) (t_genus : Int32) (t_size : Int32) (t_limit : Int32) (t_tree : Int64) (a_t_powers : Nat → Int32) (w0 : Nat → Int32) (hF : F_X1_sortRising t_size a_t_powers = some w0) : Met l yX1_sortRising wsX1_sortRising ({ frames := 2, cells := 0, slots := 0, locals := 45 }) (k_pre G (k_T cI cJ cD cH) [(h_t, .inr (1, [.int t_genus, .int t_size, .ref h_t_powers, .int t_limit, .long t_tree])), (h_t_powers, .inl (cI, 8, .inl a_t_powers))] sz [.ref h_t]) (va_Qv (fun (_ : Unit) => True) (fun _ t => va_P G vwCl [(h_t, .inr (1, [.int t_genus, .int t_size, .ref h_t_powers, .int t_limit, .long t_tree])), (h_t_powers, .inl (cI, 8, .inl w0))] t.heap) (va_A [(h_t, .inr (1, [.int t_genus, .int t_size, .ref h_t_powers, .int t_limit, .long t_tree])), (h_t_powers, .inl (cI, 8, .inl a_t_powers))] sz)) 0 0 (va_A [(h_t, .inr (1, [.int t_genus, .int t_size, .ref h_t_powers, .int t_limit, .long t_tree])), (h_t_powers, .inl (cI, 8, .inl a_t_powers))] sz) := by
  refine Met.ofW (cc := cX1_sortRising) (maxL := 3) (ret := none) (by decide) rfl ?_
  intro p e s m args below meth c s₁ B hml hv
  obtain ⟨rfl, hsz, hP, hK, hD0⟩ := hv
  have hx := B.exec
  have hb := B.bytes
  have hr := B.returns
  have hts := atoms_spec (ws := wsX1_sortRising) B.pre
  have hown : s.vm.findClass RX1 = some m.cls := findClass_of_methodNamed B.named
  have hlocks := B.notSynchronized
  subst hsz
  have hD := hD0.self (sz := s.heap.size)
  generalize hAe : va_A [(h_t, .inr (1, [.int t_genus, .int t_size, .ref h_t_powers, .int t_limit, .long t_tree])), (h_t_powers, .inl (cI, 8, .inl a_t_powers))] s.heap.size = A at hD ⊢
  have hA : ∀ q : Nat, s.heap.size ≤ q → A q := fun q h => by rw [← hAe]; exact Or.inr h
  have hS : va_S A s.heap s.heap [] := va_S.rf
  have hl := lv_entry ([.ref h_t]) (n := 3) (Nat.le_of_ble_eq_true rfl)
  rw [lg_entry_eq]
  generalize (lg_sl ([.ref h_t]) ++ List.replicate (3 - (lg_sl ([.ref h_t])).length) Slot.unset).toArray = ls at hl ⊢
  have hl : lv_has ls 3 [(0, .ref h_t)] := hl
  have hinX1 : ∀ w ∈ wsX10, w ∈ wsX1_sortRising := in_X1_sortRising_X1
  have h := hF
  unfold F_X1_sortRising at h
  refine lv_aload_n hx hb dX1_sortRising_0 rfl (lv_at hl 0 rfl) ?_
  refine va_get (D := G) (ci := 1) (v := .int t_size) (C := RX1) (T := TX1) (N := 5) hx hb hts hinX1 hown hK hP 0 rfl rfl 1 (by decide) (hts (.fieldLink RX1 22 "MarkedCurves$Desk" "size" "I") (List.mem_of_getElem? (i := 1) (by decide +kernel))) (fun _ h9 => h9) rfl dX1_sortRising_1 ?_
  refine lv_iconst (v := (1 : Int32)) hx hb dX1_sortRising_4 (by decide) ?_
  refine lv_isub hx hb dX1_sortRising_5 ?_
  refine lv_istore_n (lv' := [(1, .int (t_size - (1 : Int32))), (0, .ref h_t)]) hx hb dX1_sortRising_6 rfl hl (by decide) rfl (fun ls hl => ?_)
  have hK_X1_sortRising_7_53 : ∀  (vK7_53_0 : Nat → Int32) (H : Heap) (locs : List Loc) (ls : Array Slot), va_P G vwCl [(h_t, .inr (1, [.int t_genus, .int t_size, .ref h_t_powers, .int t_limit, .long t_tree])), (h_t_powers, .inl (cI, 8, .inl vK7_53_0))] H → va_D A [(h_t, .inr (1, [.int t_genus, .int t_size, .ref h_t_powers, .int t_limit, .long t_tree])), (h_t_powers, .inl (cI, 8, .inl vK7_53_0))] → va_S A s.heap H locs → lv_has ls 3 [] → K_X1_sortRising_7_53 vK7_53_0 = some w0 → W p l e (headSpec wsX1_sortRising ({ frames := 2, cells := 0, slots := 0, locals := 45 })).room s m ([.ref h_t] : List Value).toArray below meth c H locs 0 0 (MQ below (va_Qv (fun (_ : Unit) => True) (fun _ t => va_P G vwCl [(h_t, .inr (1, [.int t_genus, .int t_size, .ref h_t_powers, .int t_limit, .long t_tree])), (h_t_powers, .inl (cI, 8, .inl w0))] t.heap) A) ([.ref h_t] : List Value).toArray s 0 0 A) (F0 m 53 ls []) := by
    intro vK7_53_0 H locs ls hP hD hS hl h
    unfold K_X1_sortRising_7_53 at h
    cases h
    exact k_vret hx hb hr hlocks hP hS dX1_sortRising_53
  have hL7 : ∀ (n7 : Nat) (vL7_0 : Nat → Int32) (vL7_1 : Int32) (H : Heap) (locs : List Loc) (ls : Array Slot), va_P G vwCl [(h_t, .inr (1, [.int t_genus, .int t_size, .ref h_t_powers, .int t_limit, .long t_tree])), (h_t_powers, .inl (cI, 8, .inl vL7_0))] H → va_D A [(h_t, .inr (1, [.int t_genus, .int t_size, .ref h_t_powers, .int t_limit, .long t_tree])), (h_t_powers, .inl (cI, 8, .inl vL7_0))] → va_S A s.heap H locs → lv_has ls 3 [(0, .ref h_t), (1, .int vL7_1)] → wq2 (B_X1_sortRising_7 K_X1_sortRising_7_53) n7 vL7_0 vL7_1 = some w0 → W p l e (headSpec wsX1_sortRising ({ frames := 2, cells := 0, slots := 0, locals := 45 })).room s m ([.ref h_t] : List Value).toArray below meth c H locs 0 0 (MQ below (va_Qv (fun (_ : Unit) => True) (fun _ t => va_P G vwCl [(h_t, .inr (1, [.int t_genus, .int t_size, .ref h_t_powers, .int t_limit, .long t_tree])), (h_t_powers, .inl (cI, 8, .inl w0))] t.heap) A) ([.ref h_t] : List Value).toArray s 0 0 A) (F0 m 7 ls []) := by
    intro n7
    induction n7 with
    | zero => intro vL7_0 vL7_1 H locs ls hP hD hS hl h; exact wq2_0 h
    | succ n7 ih7 =>
      intro vL7_0 vL7_1 H locs ls hP hD hS hl h
      have h := wq2_s h
      unfold B_X1_sortRising_7 at h
      refine lv_iload_n hx hb dX1_sortRising_7 rfl (lv_at hl 1 rfl) ?_
      refine lv_if_le (tgt := 53) hx hb dX1_sortRising_8 (by decide) (fun c1 => ?_) (fun c1 => ?_)
      · have h := it_p h c1
        exact hK_X1_sortRising_7_53 vL7_0 _ _ _ hP hD hS (lv_sub hl [] rfl) h
      have h := it_n h c1
      refine lv_iconst (v := (0 : Int32)) hx hb dX1_sortRising_11 (by decide) ?_
      refine lv_istore_n (lv' := [(2, .int (0 : Int32)), (0, .ref h_t), (1, .int vL7_1)]) hx hb dX1_sortRising_12 rfl hl (by decide) rfl (fun ls hl => ?_)
      have hK_X1_sortRising_13_47 : ∀  (vK13_47_0 : Nat → Int32) (H : Heap) (locs : List Loc) (ls : Array Slot), va_P G vwCl [(h_t, .inr (1, [.int t_genus, .int t_size, .ref h_t_powers, .int t_limit, .long t_tree])), (h_t_powers, .inl (cI, 8, .inl vK13_47_0))] H → va_D A [(h_t, .inr (1, [.int t_genus, .int t_size, .ref h_t_powers, .int t_limit, .long t_tree])), (h_t_powers, .inl (cI, 8, .inl vK13_47_0))] → va_S A s.heap H locs → lv_has ls 3 [(0, .ref h_t), (1, .int vL7_1)] → K_X1_sortRising_13_47 vL7_1 (wq2 (B_X1_sortRising_7 K_X1_sortRising_7_53) n7) vK13_47_0 = some w0 → W p l e (headSpec wsX1_sortRising ({ frames := 2, cells := 0, slots := 0, locals := 45 })).room s m ([.ref h_t] : List Value).toArray below meth c H locs 0 0 (MQ below (va_Qv (fun (_ : Unit) => True) (fun _ t => va_P G vwCl [(h_t, .inr (1, [.int t_genus, .int t_size, .ref h_t_powers, .int t_limit, .long t_tree])), (h_t_powers, .inl (cI, 8, .inl w0))] t.heap) A) ([.ref h_t] : List Value).toArray s 0 0 A) (F0 m 47 ls []) := by
        intro vK13_47_0 H locs ls hP hD hS hl h
        unfold K_X1_sortRising_13_47 at h
        refine lv_iinc (v := (vL7_1 + (-1 : Int32))) (lv' := [(1, .int (vL7_1 + (-1 : Int32))), (0, .ref h_t)]) hx hb dX1_sortRising_47 hl (k := 1) rfl (by first | rfl | decide) (by decide) rfl (fun ls hl => ?_)
        refine lv_goto (tgt := 7) hx hb dX1_sortRising_50 (by decide) ?_
        exact ih7 vK13_47_0 (vL7_1 + (-1 : Int32)) _ _ _ hP hD hS (lv_sub hl [1, 0] rfl) h
      have hL13 : ∀ (n13 : Nat) (vL13_0 : Nat → Int32) (vL13_1 : Int32) (H : Heap) (locs : List Loc) (ls : Array Slot), va_P G vwCl [(h_t, .inr (1, [.int t_genus, .int t_size, .ref h_t_powers, .int t_limit, .long t_tree])), (h_t_powers, .inl (cI, 8, .inl vL13_0))] H → va_D A [(h_t, .inr (1, [.int t_genus, .int t_size, .ref h_t_powers, .int t_limit, .long t_tree])), (h_t_powers, .inl (cI, 8, .inl vL13_0))] → va_S A s.heap H locs → lv_has ls 3 [(0, .ref h_t), (1, .int vL7_1), (2, .int vL13_1)] → wq2 (B_X1_sortRising_13 vL7_1 (K_X1_sortRising_13_47 vL7_1 (wq2 (B_X1_sortRising_7 K_X1_sortRising_7_53) n7))) n13 vL13_0 vL13_1 = some w0 → W p l e (headSpec wsX1_sortRising ({ frames := 2, cells := 0, slots := 0, locals := 45 })).room s m ([.ref h_t] : List Value).toArray below meth c H locs 0 0 (MQ below (va_Qv (fun (_ : Unit) => True) (fun _ t => va_P G vwCl [(h_t, .inr (1, [.int t_genus, .int t_size, .ref h_t_powers, .int t_limit, .long t_tree])), (h_t_powers, .inl (cI, 8, .inl w0))] t.heap) A) ([.ref h_t] : List Value).toArray s 0 0 A) (F0 m 13 ls []) := by
        intro n13
        induction n13 with
        | zero => intro vL13_0 vL13_1 H locs ls hP hD hS hl h; exact wq2_0 h
        | succ n13 ih13 =>
          intro vL13_0 vL13_1 H locs ls hP hD hS hl h
          have h := wq2_s h
          unfold B_X1_sortRising_13 at h
          refine lv_iload_n hx hb dX1_sortRising_13 rfl (lv_at hl 2 rfl) ?_
          refine lv_iload_n hx hb dX1_sortRising_14 rfl (lv_at hl 1 rfl) ?_
          refine lv_icmp_ge (tgt := 47) hx hb dX1_sortRising_15 (by decide) (fun c2 => ?_) (fun c2 => ?_)
          · have h := it_p h c2
            exact hK_X1_sortRising_13_47 vL13_0 _ _ _ hP hD hS (lv_sub hl [0, 1] rfl) h
          have h := it_n h c2
          refine lv_aload_n hx hb dX1_sortRising_18 rfl (lv_at hl 0 rfl) ?_
          refine lv_iload_n hx hb dX1_sortRising_19 rfl (lv_at hl 2 rfl) ?_
          obtain ⟨x3, hx3, h⟩ := bd_e h
          try dsimp only at h
          refine k_ViU (n := 1) (As := [.int vL13_1]) (rest := []) hx hb hml hown hts (c_X1_powerAt l G cI cJ cD cH H.size h_t h_t_powers t_genus t_size t_limit t_tree vL13_0 vL13_1 x3 hx3) gX1_sortRising_X1_powerAt rfl rfl rfl (by decide +kernel) ⟨by first | exact Nat.le_of_ble_eq_true rfl | (simp only [headSpec]; omega), by first | exact Nat.le_of_ble_eq_true rfl | (simp only [headSpec]; omega)⟩ hK hP hD hS hA [0, 1] (by decide) rfl (ci := 1) rfl rfl rfl rfl rfl hl.1 (Nat.le_of_ble_eq_true rfl) dX1_sortRising_20 ⟨Nat.zero_le _, Nat.zero_le _⟩ (fun hp3 H locs hP hS => ?_)
          refine lv_aload_n hx hb dX1_sortRising_23 rfl (lv_at hl 0 rfl) ?_
          refine lv_iload_n hx hb dX1_sortRising_24 rfl (lv_at hl 2 rfl) ?_
          refine lv_iconst (v := (1 : Int32)) hx hb dX1_sortRising_25 (by decide) ?_
          refine lv_iadd hx hb dX1_sortRising_26 ?_
          obtain ⟨x4, hx4, h⟩ := bd_e h
          try dsimp only at h
          refine k_ViU (n := 1) (As := [.int (vL13_1 + (1 : Int32))]) (rest := [.int x3]) hx hb hml hown hts (c_X1_powerAt l G cI cJ cD cH H.size h_t h_t_powers t_genus t_size t_limit t_tree vL13_0 (vL13_1 + (1 : Int32)) x4 hx4) gX1_sortRising_X1_powerAt rfl rfl rfl (by decide +kernel) ⟨by first | exact Nat.le_of_ble_eq_true rfl | (simp only [headSpec]; omega), by first | exact Nat.le_of_ble_eq_true rfl | (simp only [headSpec]; omega)⟩ hK hP hD hS hA [0, 1] (by decide) rfl (ci := 1) rfl rfl rfl rfl rfl hl.1 (Nat.le_of_ble_eq_true rfl) dX1_sortRising_27 ⟨Nat.zero_le _, Nat.zero_le _⟩ (fun hp4 H locs hP hS => ?_)
          refine lv_icmp_le (tgt := 41) hx hb dX1_sortRising_30 (by decide) (fun c5 => ?_) (fun c5 => ?_)
          · have h := it_p h c5
            refine lv_iinc (v := (vL13_1 + (1 : Int32))) (lv' := [(2, .int (vL13_1 + (1 : Int32))), (0, .ref h_t), (1, .int vL7_1)]) hx hb dX1_sortRising_41 hl (k := 2) rfl (by first | rfl | decide) (by decide) rfl (fun ls hl => ?_)
            refine lv_goto (tgt := 13) hx hb dX1_sortRising_44 (by decide) ?_
            exact ih13 vL13_0 (vL13_1 + (1 : Int32)) _ _ _ hP hD hS (lv_sub hl [1, 2, 0] rfl) h
          have h := it_n h c5
          refine lv_aload_n hx hb dX1_sortRising_33 rfl (lv_at hl 0 rfl) ?_
          refine lv_iload_n hx hb dX1_sortRising_34 rfl (lv_at hl 2 rfl) ?_
          refine lv_iload_n hx hb dX1_sortRising_35 rfl (lv_at hl 2 rfl) ?_
          refine lv_iconst (v := (1 : Int32)) hx hb dX1_sortRising_36 (by decide) ?_
          refine lv_iadd hx hb dX1_sortRising_37 ?_
          obtain ⟨x6, hx6, h⟩ := bd_e h
          try dsimp only at h
          refine k_Vv (n := 2) (As := [.int vL13_1, .int (vL13_1 + (1 : Int32))]) (rest := []) hx hb hml hown hts (c_X1_swap l G cI cJ cD cH H.size h_t h_t_powers t_genus t_size t_limit t_tree vL13_0 vL13_1 (vL13_1 + (1 : Int32)) x6 hx6) gX1_sortRising_X1_swap rfl rfl rfl (by decide +kernel) ⟨by first | exact Nat.le_of_ble_eq_true rfl | (simp only [headSpec]; omega), by first | exact Nat.le_of_ble_eq_true rfl | (simp only [headSpec]; omega)⟩ hK hP hD hS hA [0, 1] (by decide) rfl rfl (ci := 1) rfl rfl rfl rfl rfl hl.1 (Nat.le_of_ble_eq_true rfl) dX1_sortRising_38 ⟨Nat.zero_le _, Nat.zero_le _⟩ [(h_t, .inr (1, [.int t_genus, .int t_size, .ref h_t_powers, .int t_limit, .long t_tree])), (h_t_powers, .inl (cI, 8, .inl x6))] [] 2 rfl rfl rfl (by decide +kernel) rfl (fun hp6 H locs hP hD hS => ?_)
          refine lv_iinc (v := (vL13_1 + (1 : Int32))) (lv' := [(2, .int (vL13_1 + (1 : Int32))), (0, .ref h_t), (1, .int vL7_1)]) hx hb dX1_sortRising_41 hl (k := 2) rfl (by first | rfl | decide) (by decide) rfl (fun ls hl => ?_)
          refine lv_goto (tgt := 13) hx hb dX1_sortRising_44 (by decide) ?_
          exact ih13 x6 (vL13_1 + (1 : Int32)) _ _ _ hP hD hS (lv_sub hl [1, 2, 0] rfl) h
      exact hL13 FU vL7_0 (0 : Int32) _ _ _ hP hD hS (lv_sub hl [1, 2, 0] rfl) h
  exact hL7 FU a_t_powers (t_size - (1 : Int32)) _ _ _ hP hD hS (lv_sub hl [1, 0] rfl) h

/-! X1_turnAbout -/
noncomputable def K_X1_turnAbout_2_31  (vK2_31_0 : Nat → Int32) : Option ((Nat → Int32)) :=
  some vK2_31_0
noncomputable def B_X1_turnAbout_2 (t_size : Int32) (kk2_31 : (Nat → Int32) → Option ((Nat → Int32))) (vL2_0 : Nat → Int32) (vL2_1 : Int32) (ag2 : (Nat → Int32) → Int32 → Option ((Nat → Int32))) : Option ((Nat → Int32)) :=
  if (t_size / (2 : Int32)) ≤ vL2_1 then (kk2_31 vL2_0) else (bd (F_X1_swap vL2_0 vL2_1 ((t_size - (1 : Int32)) - vL2_1)) (fun x2 => ag2 x2 (vL2_1 + (1 : Int32))))
noncomputable def F_X1_turnAbout (t_size : Int32) (a_t_powers : Nat → Int32) : Option ((Nat → Int32)) :=
  wq2 (B_X1_turnAbout_2 t_size K_X1_turnAbout_2_31) FU a_t_powers (0 : Int32)
theorem in_X1_turnAbout_X1 : ∀ w ∈ wsX10, w ∈ wsX1_turnAbout := mem_r _ [16, 17, 18, 19, 20] (by decide +kernel)
set_option maxHeartbeats 4000000 in
set_option maxRecDepth 100000 in
theorem c_X1_turnAbout (l : Launch) (G : va_G) (cI cJ cD cH : ClassId) (sz : Nat) (h_t : Nat) (h_t_powers : Nat) (t_genus : Int32) (t_size : Int32) (t_limit : Int32) (t_tree : Int64) (a_t_powers : Nat → Int32) (w0 : Nat → Int32) (hF : F_X1_turnAbout t_size a_t_powers = some w0) : Met l yX1_turnAbout wsX1_turnAbout ({ frames := 2, cells := 0, slots := 0, locals := 45 }) (k_pre G (k_T cI cJ cD cH) [(h_t, .inr (1, [.int t_genus, .int t_size, .ref h_t_powers, .int t_limit, .long t_tree])), (h_t_powers, .inl (cI, 8, .inl a_t_powers))] sz [.ref h_t]) (va_Qv (fun (_ : Unit) => True) (fun _ t => va_P G vwCl [(h_t, .inr (1, [.int t_genus, .int t_size, .ref h_t_powers, .int t_limit, .long t_tree])), (h_t_powers, .inl (cI, 8, .inl w0))] t.heap) (va_A [(h_t, .inr (1, [.int t_genus, .int t_size, .ref h_t_powers, .int t_limit, .long t_tree])), (h_t_powers, .inl (cI, 8, .inl a_t_powers))] sz)) 0 0 (va_A [(h_t, .inr (1, [.int t_genus, .int t_size, .ref h_t_powers, .int t_limit, .long t_tree])), (h_t_powers, .inl (cI, 8, .inl a_t_powers))] sz) := by
  refine Met.ofW (cc := cX1_turnAbout) (maxL := 2) (ret := none) (by decide) rfl ?_
  intro p e s m args below meth c s₁ B hml hv
  obtain ⟨rfl, hsz, hP, hK, hD0⟩ := hv
  have hx := B.exec
  have hb := B.bytes
  have hr := B.returns
  have hts := atoms_spec (ws := wsX1_turnAbout) B.pre
  have hown : s.vm.findClass RX1 = some m.cls := findClass_of_methodNamed B.named
  have hlocks := B.notSynchronized
  subst hsz
  have hD := hD0.self (sz := s.heap.size)
  generalize hAe : va_A [(h_t, .inr (1, [.int t_genus, .int t_size, .ref h_t_powers, .int t_limit, .long t_tree])), (h_t_powers, .inl (cI, 8, .inl a_t_powers))] s.heap.size = A at hD ⊢
  have hA : ∀ q : Nat, s.heap.size ≤ q → A q := fun q h => by rw [← hAe]; exact Or.inr h
  have hS : va_S A s.heap s.heap [] := va_S.rf
  have hl := lv_entry ([.ref h_t]) (n := 2) (Nat.le_of_ble_eq_true rfl)
  rw [lg_entry_eq]
  generalize (lg_sl ([.ref h_t]) ++ List.replicate (2 - (lg_sl ([.ref h_t])).length) Slot.unset).toArray = ls at hl ⊢
  have hl : lv_has ls 2 [(0, .ref h_t)] := hl
  have hinX1 : ∀ w ∈ wsX10, w ∈ wsX1_turnAbout := in_X1_turnAbout_X1
  have h := hF
  unfold F_X1_turnAbout at h
  refine lv_iconst (v := (0 : Int32)) hx hb dX1_turnAbout_0 (by decide) ?_
  refine lv_istore_n (lv' := [(1, .int (0 : Int32)), (0, .ref h_t)]) hx hb dX1_turnAbout_1 rfl hl (by decide) rfl (fun ls hl => ?_)
  have hK_X1_turnAbout_2_31 : ∀  (vK2_31_0 : Nat → Int32) (H : Heap) (locs : List Loc) (ls : Array Slot), va_P G vwCl [(h_t, .inr (1, [.int t_genus, .int t_size, .ref h_t_powers, .int t_limit, .long t_tree])), (h_t_powers, .inl (cI, 8, .inl vK2_31_0))] H → va_D A [(h_t, .inr (1, [.int t_genus, .int t_size, .ref h_t_powers, .int t_limit, .long t_tree])), (h_t_powers, .inl (cI, 8, .inl vK2_31_0))] → va_S A s.heap H locs → lv_has ls 2 [] → K_X1_turnAbout_2_31 vK2_31_0 = some w0 → W p l e (headSpec wsX1_turnAbout ({ frames := 2, cells := 0, slots := 0, locals := 45 })).room s m ([.ref h_t] : List Value).toArray below meth c H locs 0 0 (MQ below (va_Qv (fun (_ : Unit) => True) (fun _ t => va_P G vwCl [(h_t, .inr (1, [.int t_genus, .int t_size, .ref h_t_powers, .int t_limit, .long t_tree])), (h_t_powers, .inl (cI, 8, .inl w0))] t.heap) A) ([.ref h_t] : List Value).toArray s 0 0 A) (F0 m 31 ls []) := by
    intro vK2_31_0 H locs ls hP hD hS hl h
    unfold K_X1_turnAbout_2_31 at h
    cases h
    exact k_vret hx hb hr hlocks hP hS dX1_turnAbout_31
  have hL2 : ∀ (n2 : Nat) (vL2_0 : Nat → Int32) (vL2_1 : Int32) (H : Heap) (locs : List Loc) (ls : Array Slot), va_P G vwCl [(h_t, .inr (1, [.int t_genus, .int t_size, .ref h_t_powers, .int t_limit, .long t_tree])), (h_t_powers, .inl (cI, 8, .inl vL2_0))] H → va_D A [(h_t, .inr (1, [.int t_genus, .int t_size, .ref h_t_powers, .int t_limit, .long t_tree])), (h_t_powers, .inl (cI, 8, .inl vL2_0))] → va_S A s.heap H locs → lv_has ls 2 [(0, .ref h_t), (1, .int vL2_1)] → wq2 (B_X1_turnAbout_2 t_size K_X1_turnAbout_2_31) n2 vL2_0 vL2_1 = some w0 → W p l e (headSpec wsX1_turnAbout ({ frames := 2, cells := 0, slots := 0, locals := 45 })).room s m ([.ref h_t] : List Value).toArray below meth c H locs 0 0 (MQ below (va_Qv (fun (_ : Unit) => True) (fun _ t => va_P G vwCl [(h_t, .inr (1, [.int t_genus, .int t_size, .ref h_t_powers, .int t_limit, .long t_tree])), (h_t_powers, .inl (cI, 8, .inl w0))] t.heap) A) ([.ref h_t] : List Value).toArray s 0 0 A) (F0 m 2 ls []) := by
    intro n2
    induction n2 with
    | zero => intro vL2_0 vL2_1 H locs ls hP hD hS hl h; exact wq2_0 h
    | succ n2 ih2 =>
      intro vL2_0 vL2_1 H locs ls hP hD hS hl h
      have h := wq2_s h
      unfold B_X1_turnAbout_2 at h
      refine lv_iload_n hx hb dX1_turnAbout_2 rfl (lv_at hl 1 rfl) ?_
      refine lv_aload_n hx hb dX1_turnAbout_3 rfl (lv_at hl 0 rfl) ?_
      refine va_get (D := G) (ci := 1) (v := .int t_size) (C := RX1) (T := TX1) (N := 5) hx hb hts hinX1 hown hK hP 0 rfl rfl 1 (by decide) (hts (.fieldLink RX1 22 "MarkedCurves$Desk" "size" "I") (List.mem_of_getElem? (i := 1) (by decide +kernel))) (fun _ h9 => h9) rfl dX1_turnAbout_4 ?_
      refine lv_iconst (v := (2 : Int32)) hx hb dX1_turnAbout_7 (by decide) ?_
      refine lv_idiv hx hb dX1_turnAbout_8 (by decide) ?_
      refine lv_icmp_ge (tgt := 31) hx hb dX1_turnAbout_9 (by decide) (fun c1 => ?_) (fun c1 => ?_)
      · have h := it_p h c1
        exact hK_X1_turnAbout_2_31 vL2_0 _ _ _ hP hD hS (lv_sub hl [] rfl) h
      have h := it_n h c1
      refine lv_aload_n hx hb dX1_turnAbout_12 rfl (lv_at hl 0 rfl) ?_
      refine lv_iload_n hx hb dX1_turnAbout_13 rfl (lv_at hl 1 rfl) ?_
      refine lv_aload_n hx hb dX1_turnAbout_14 rfl (lv_at hl 0 rfl) ?_
      refine va_get (D := G) (ci := 1) (v := .int t_size) (C := RX1) (T := TX1) (N := 5) hx hb hts hinX1 hown hK hP 0 rfl rfl 1 (by decide) (hts (.fieldLink RX1 22 "MarkedCurves$Desk" "size" "I") (List.mem_of_getElem? (i := 1) (by decide +kernel))) (fun _ h9 => h9) rfl dX1_turnAbout_15 ?_
      refine lv_iconst (v := (1 : Int32)) hx hb dX1_turnAbout_18 (by decide) ?_
      refine lv_isub hx hb dX1_turnAbout_19 ?_
      refine lv_iload_n hx hb dX1_turnAbout_20 rfl (lv_at hl 1 rfl) ?_
      refine lv_isub hx hb dX1_turnAbout_21 ?_
      obtain ⟨x2, hx2, h⟩ := bd_e h
      try dsimp only at h
      refine k_Vv (n := 2) (As := [.int vL2_1, .int ((t_size - (1 : Int32)) - vL2_1)]) (rest := []) hx hb hml hown hts (c_X1_swap l G cI cJ cD cH H.size h_t h_t_powers t_genus t_size t_limit t_tree vL2_0 vL2_1 ((t_size - (1 : Int32)) - vL2_1) x2 hx2) gX1_turnAbout_X1_swap rfl rfl rfl (by decide +kernel) ⟨by first | exact Nat.le_of_ble_eq_true rfl | (simp only [headSpec]; omega), by first | exact Nat.le_of_ble_eq_true rfl | (simp only [headSpec]; omega)⟩ hK hP hD hS hA [0, 1] (by decide) rfl rfl (ci := 1) rfl rfl rfl rfl rfl hl.1 (Nat.le_of_ble_eq_true rfl) dX1_turnAbout_22 ⟨Nat.zero_le _, Nat.zero_le _⟩ [(h_t, .inr (1, [.int t_genus, .int t_size, .ref h_t_powers, .int t_limit, .long t_tree])), (h_t_powers, .inl (cI, 8, .inl x2))] [] 2 rfl rfl rfl (by decide +kernel) rfl (fun hp2 H locs hP hD hS => ?_)
      refine lv_iinc (v := (vL2_1 + (1 : Int32))) (lv' := [(1, .int (vL2_1 + (1 : Int32))), (0, .ref h_t)]) hx hb dX1_turnAbout_25 hl (k := 1) rfl (by first | rfl | decide) (by decide) rfl (fun ls hl => ?_)
      refine lv_goto (tgt := 2) hx hb dX1_turnAbout_28 (by decide) ?_
      exact ih2 x2 (vL2_1 + (1 : Int32)) _ _ _ hP hD hS (lv_sub hl [1, 0] rfl) h
  exact hL2 FU a_t_powers (0 : Int32) _ _ _ hP hD hS (lv_sub hl [1, 0] rfl) h

/-! X1_putFirstLast -/
noncomputable def K_X1_putFirstLast_2_26  (vK2_26_0 : Nat → Int32) : Option ((Nat → Int32)) :=
  some vK2_26_0
noncomputable def B_X1_putFirstLast_2 (t_size : Int32) (kk2_26 : (Nat → Int32) → Option ((Nat → Int32))) (vL2_0 : Nat → Int32) (vL2_1 : Int32) (ag2 : (Nat → Int32) → Int32 → Option ((Nat → Int32))) : Option ((Nat → Int32)) :=
  if (t_size - (1 : Int32)) ≤ vL2_1 then (kk2_26 vL2_0) else (bd (F_X1_swap vL2_0 vL2_1 (vL2_1 + (1 : Int32))) (fun x2 => ag2 x2 (vL2_1 + (1 : Int32))))
noncomputable def F_X1_putFirstLast (t_size : Int32) (a_t_powers : Nat → Int32) : Option ((Nat → Int32)) :=
  wq2 (B_X1_putFirstLast_2 t_size K_X1_putFirstLast_2_26) FU a_t_powers (0 : Int32)
theorem in_X1_putFirstLast_X1 : ∀ w ∈ wsX10, w ∈ wsX1_putFirstLast := mem_r _ [16, 17, 18, 19, 20] (by decide +kernel)
set_option maxHeartbeats 4000000 in
set_option maxRecDepth 100000 in
theorem c_X1_putFirstLast (l : Launch) (G : va_G) (cI cJ cD cH : ClassId) (sz : Nat) (h_t : Nat) (h_t_powers : Nat) (t_genus : Int32) (t_size : Int32) (t_limit : Int32) (t_tree : Int64) (a_t_powers : Nat → Int32) (w0 : Nat → Int32) (hF : F_X1_putFirstLast t_size a_t_powers = some w0) : Met l yX1_putFirstLast wsX1_putFirstLast ({ frames := 2, cells := 0, slots := 0, locals := 45 }) (k_pre G (k_T cI cJ cD cH) [(h_t, .inr (1, [.int t_genus, .int t_size, .ref h_t_powers, .int t_limit, .long t_tree])), (h_t_powers, .inl (cI, 8, .inl a_t_powers))] sz [.ref h_t]) (va_Qv (fun (_ : Unit) => True) (fun _ t => va_P G vwCl [(h_t, .inr (1, [.int t_genus, .int t_size, .ref h_t_powers, .int t_limit, .long t_tree])), (h_t_powers, .inl (cI, 8, .inl w0))] t.heap) (va_A [(h_t, .inr (1, [.int t_genus, .int t_size, .ref h_t_powers, .int t_limit, .long t_tree])), (h_t_powers, .inl (cI, 8, .inl a_t_powers))] sz)) 0 0 (va_A [(h_t, .inr (1, [.int t_genus, .int t_size, .ref h_t_powers, .int t_limit, .long t_tree])), (h_t_powers, .inl (cI, 8, .inl a_t_powers))] sz) := by
  refine Met.ofW (cc := cX1_putFirstLast) (maxL := 2) (ret := none) (by decide) rfl ?_
  intro p e s m args below meth c s₁ B hml hv
  obtain ⟨rfl, hsz, hP, hK, hD0⟩ := hv
  have hx := B.exec
  have hb := B.bytes
  have hr := B.returns
  have hts := atoms_spec (ws := wsX1_putFirstLast) B.pre
  have hown : s.vm.findClass RX1 = some m.cls := findClass_of_methodNamed B.named
  have hlocks := B.notSynchronized
  subst hsz
  have hD := hD0.self (sz := s.heap.size)
  generalize hAe : va_A [(h_t, .inr (1, [.int t_genus, .int t_size, .ref h_t_powers, .int t_limit, .long t_tree])), (h_t_powers, .inl (cI, 8, .inl a_t_powers))] s.heap.size = A at hD ⊢
  have hA : ∀ q : Nat, s.heap.size ≤ q → A q := fun q h => by rw [← hAe]; exact Or.inr h
  have hS : va_S A s.heap s.heap [] := va_S.rf
  have hl := lv_entry ([.ref h_t]) (n := 2) (Nat.le_of_ble_eq_true rfl)
  rw [lg_entry_eq]
  generalize (lg_sl ([.ref h_t]) ++ List.replicate (2 - (lg_sl ([.ref h_t])).length) Slot.unset).toArray = ls at hl ⊢
  have hl : lv_has ls 2 [(0, .ref h_t)] := hl
  have hinX1 : ∀ w ∈ wsX10, w ∈ wsX1_putFirstLast := in_X1_putFirstLast_X1
  have h := hF
  unfold F_X1_putFirstLast at h
  refine lv_iconst (v := (0 : Int32)) hx hb dX1_putFirstLast_0 (by decide) ?_
  refine lv_istore_n (lv' := [(1, .int (0 : Int32)), (0, .ref h_t)]) hx hb dX1_putFirstLast_1 rfl hl (by decide) rfl (fun ls hl => ?_)
  have hK_X1_putFirstLast_2_26 : ∀  (vK2_26_0 : Nat → Int32) (H : Heap) (locs : List Loc) (ls : Array Slot), va_P G vwCl [(h_t, .inr (1, [.int t_genus, .int t_size, .ref h_t_powers, .int t_limit, .long t_tree])), (h_t_powers, .inl (cI, 8, .inl vK2_26_0))] H → va_D A [(h_t, .inr (1, [.int t_genus, .int t_size, .ref h_t_powers, .int t_limit, .long t_tree])), (h_t_powers, .inl (cI, 8, .inl vK2_26_0))] → va_S A s.heap H locs → lv_has ls 2 [] → K_X1_putFirstLast_2_26 vK2_26_0 = some w0 → W p l e (headSpec wsX1_putFirstLast ({ frames := 2, cells := 0, slots := 0, locals := 45 })).room s m ([.ref h_t] : List Value).toArray below meth c H locs 0 0 (MQ below (va_Qv (fun (_ : Unit) => True) (fun _ t => va_P G vwCl [(h_t, .inr (1, [.int t_genus, .int t_size, .ref h_t_powers, .int t_limit, .long t_tree])), (h_t_powers, .inl (cI, 8, .inl w0))] t.heap) A) ([.ref h_t] : List Value).toArray s 0 0 A) (F0 m 26 ls []) := by
    intro vK2_26_0 H locs ls hP hD hS hl h
    unfold K_X1_putFirstLast_2_26 at h
    cases h
    exact k_vret hx hb hr hlocks hP hS dX1_putFirstLast_26
  have hL2 : ∀ (n2 : Nat) (vL2_0 : Nat → Int32) (vL2_1 : Int32) (H : Heap) (locs : List Loc) (ls : Array Slot), va_P G vwCl [(h_t, .inr (1, [.int t_genus, .int t_size, .ref h_t_powers, .int t_limit, .long t_tree])), (h_t_powers, .inl (cI, 8, .inl vL2_0))] H → va_D A [(h_t, .inr (1, [.int t_genus, .int t_size, .ref h_t_powers, .int t_limit, .long t_tree])), (h_t_powers, .inl (cI, 8, .inl vL2_0))] → va_S A s.heap H locs → lv_has ls 2 [(0, .ref h_t), (1, .int vL2_1)] → wq2 (B_X1_putFirstLast_2 t_size K_X1_putFirstLast_2_26) n2 vL2_0 vL2_1 = some w0 → W p l e (headSpec wsX1_putFirstLast ({ frames := 2, cells := 0, slots := 0, locals := 45 })).room s m ([.ref h_t] : List Value).toArray below meth c H locs 0 0 (MQ below (va_Qv (fun (_ : Unit) => True) (fun _ t => va_P G vwCl [(h_t, .inr (1, [.int t_genus, .int t_size, .ref h_t_powers, .int t_limit, .long t_tree])), (h_t_powers, .inl (cI, 8, .inl w0))] t.heap) A) ([.ref h_t] : List Value).toArray s 0 0 A) (F0 m 2 ls []) := by
    intro n2
    induction n2 with
    | zero => intro vL2_0 vL2_1 H locs ls hP hD hS hl h; exact wq2_0 h
    | succ n2 ih2 =>
      intro vL2_0 vL2_1 H locs ls hP hD hS hl h
      have h := wq2_s h
      unfold B_X1_putFirstLast_2 at h
      refine lv_iload_n hx hb dX1_putFirstLast_2 rfl (lv_at hl 1 rfl) ?_
      refine lv_aload_n hx hb dX1_putFirstLast_3 rfl (lv_at hl 0 rfl) ?_
      refine va_get (D := G) (ci := 1) (v := .int t_size) (C := RX1) (T := TX1) (N := 5) hx hb hts hinX1 hown hK hP 0 rfl rfl 1 (by decide) (hts (.fieldLink RX1 22 "MarkedCurves$Desk" "size" "I") (List.mem_of_getElem? (i := 1) (by decide +kernel))) (fun _ h9 => h9) rfl dX1_putFirstLast_4 ?_
      refine lv_iconst (v := (1 : Int32)) hx hb dX1_putFirstLast_7 (by decide) ?_
      refine lv_isub hx hb dX1_putFirstLast_8 ?_
      refine lv_icmp_ge (tgt := 26) hx hb dX1_putFirstLast_9 (by decide) (fun c1 => ?_) (fun c1 => ?_)
      · have h := it_p h c1
        exact hK_X1_putFirstLast_2_26 vL2_0 _ _ _ hP hD hS (lv_sub hl [] rfl) h
      have h := it_n h c1
      refine lv_aload_n hx hb dX1_putFirstLast_12 rfl (lv_at hl 0 rfl) ?_
      refine lv_iload_n hx hb dX1_putFirstLast_13 rfl (lv_at hl 1 rfl) ?_
      refine lv_iload_n hx hb dX1_putFirstLast_14 rfl (lv_at hl 1 rfl) ?_
      refine lv_iconst (v := (1 : Int32)) hx hb dX1_putFirstLast_15 (by decide) ?_
      refine lv_iadd hx hb dX1_putFirstLast_16 ?_
      obtain ⟨x2, hx2, h⟩ := bd_e h
      try dsimp only at h
      refine k_Vv (n := 2) (As := [.int vL2_1, .int (vL2_1 + (1 : Int32))]) (rest := []) hx hb hml hown hts (c_X1_swap l G cI cJ cD cH H.size h_t h_t_powers t_genus t_size t_limit t_tree vL2_0 vL2_1 (vL2_1 + (1 : Int32)) x2 hx2) gX1_putFirstLast_X1_swap rfl rfl rfl (by decide +kernel) ⟨by first | exact Nat.le_of_ble_eq_true rfl | (simp only [headSpec]; omega), by first | exact Nat.le_of_ble_eq_true rfl | (simp only [headSpec]; omega)⟩ hK hP hD hS hA [0, 1] (by decide) rfl rfl (ci := 1) rfl rfl rfl rfl rfl hl.1 (Nat.le_of_ble_eq_true rfl) dX1_putFirstLast_17 ⟨Nat.zero_le _, Nat.zero_le _⟩ [(h_t, .inr (1, [.int t_genus, .int t_size, .ref h_t_powers, .int t_limit, .long t_tree])), (h_t_powers, .inl (cI, 8, .inl x2))] [] 2 rfl rfl rfl (by decide +kernel) rfl (fun hp2 H locs hP hD hS => ?_)
      refine lv_iinc (v := (vL2_1 + (1 : Int32))) (lv' := [(1, .int (vL2_1 + (1 : Int32))), (0, .ref h_t)]) hx hb dX1_putFirstLast_20 hl (k := 1) rfl (by first | rfl | decide) (by decide) rfl (fun ls hl => ?_)
      refine lv_goto (tgt := 2) hx hb dX1_putFirstLast_23 (by decide) ?_
      exact ih2 x2 (vL2_1 + (1 : Int32)) _ _ _ hP hD hS (lv_sub hl [1, 0] rfl) h
  exact hL2 FU a_t_powers (0 : Int32) _ _ _ hP hD hS (lv_sub hl [1, 0] rfl) h
