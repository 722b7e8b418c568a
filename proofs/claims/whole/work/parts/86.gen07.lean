/-! X9_isNothing -/
set_option maxHeartbeats 4000000 in
set_option maxRecDepth 100000 in
theorem tK_X9_isNothing_6_29 {l : Launch} {G : va_G} {cI cJ cD cH : ClassId} {h_p1 : Nat} {n_p1 : Nat} {a_p1 : Nat → Int32} {p0 : Int32} {p2 : Int32} {p3 : Int32} {r0 : Int32} {p : Program} {e : Env} {s : State} {m : MethodId} {below : List Frame} {meth : Method} {c : Code} {A : Nat → Prop} (hx : p.tables.exec = Jvm.exec) (hb : c.code = cX9_isNothing) (hr : meth.sig.returnType = (some .boolean)) (hml : c.maxLocals = 6) (hts : ∀ w ∈ wsX9_isNothing, w.before ([.int p0, .ref h_p1, .int p2, .int p3] : List Value).toArray s = true) (hown : s.vm.findClass RX9 = some m.cls) (hlocks : meth.locks = false) (hK : va_K G vwCl (k_T cI cJ cD cH) s) (hA : ∀ q : Nat, s.heap.size ≤ q → A q) : ∀  (vK6_29_0 : Int32) (H : Heap) (locs : List Loc) (ls : Array Slot), va_P G vwCl [(h_p1, .inl (cI, n_p1, .inl a_p1))] H → va_D A [(h_p1, .inl (cI, n_p1, .inl a_p1))] → va_S A s.heap H locs → lv_has ls 6 [(0, .int p0), (3, .int p3), (4, .int vK6_29_0)] → K_X9_isNothing_6_29 p0 p3 vK6_29_0 = some r0 → W p l e (headSpec wsX9_isNothing ({ frames := 0, cells := 0, slots := 0, locals := 0 })).room s m ([.int p0, .ref h_p1, .int p2, .int p3] : List Value).toArray below meth c H locs 0 0 (MQ below (va_Qi (fun r (_ : Unit) => r = r0 ∧ narrow .boolean (.int r0) = .int r0) (fun _ t => va_P G vwCl [(h_p1, .inl (cI, n_p1, .inl a_p1))] t.heap) A) ([.int p0, .ref h_p1, .int p2, .int p3] : List Value).toArray s 0 0 A) (F0 m 29 ls []) := by
  have hta : ∀ w ∈ wA, w.before ([.int p0, .ref h_p1, .int p2, .int p3] : List Value).toArray s = true := hta_of hts
  intro vK6_29_0 H locs ls hP hD hS hl h
  unfold K_X9_isNothing_6_29 at h
  refine lv_iconst (v := (2 : Int32)) hx hb dX9_isNothing_29 (by decide) ?_
  refine lv_iload_n hx hb dX9_isNothing_30 rfl (lv_at hl 0 rfl) ?_
  refine lv_imul hx hb dX9_isNothing_31 ?_
  refine lv_iconst (v := (2 : Int32)) hx hb dX9_isNothing_32 (by decide) ?_
  refine lv_isub hx hb dX9_isNothing_33 ?_
  refine lv_iload_n hx hb dX9_isNothing_34 rfl (lv_at hl 1 rfl) ?_
  refine lv_iadd hx hb dX9_isNothing_35 ?_
  refine lv_if_le (tgt := 51) hx hb dX9_isNothing_36 (by decide) (fun c1 => ?_) (fun c1 => ?_)
  · have h := it_p h c1
    refine lv_iconst (v := (1 : Int32)) hx hb dX9_isNothing_51 (by decide) ?_
    refine lv_goto (tgt := 56) hx hb dX9_isNothing_52 (by decide) ?_
    have h9 := Option.some.inj h
    have e9 : (1 : Int32) = r0 := congrArg (fun z9 => z9) h9
    rw [← e9]
    exact k_zret hx hb hr hlocks hP hS rfl rfl dX9_isNothing_56
  have h := it_n h c1
  refine lv_iload hx hb dX9_isNothing_39 (lv_at hl 2 rfl) ?_
  refine lv_iconst (v := (3 : Int32)) hx hb dX9_isNothing_41 (by decide) ?_
  refine lv_iload_n hx hb dX9_isNothing_42 rfl (lv_at hl 0 rfl) ?_
  refine lv_imul hx hb dX9_isNothing_43 ?_
  refine lv_iconst (v := (3 : Int32)) hx hb dX9_isNothing_44 (by decide) ?_
  refine lv_isub hx hb dX9_isNothing_45 ?_
  refine lv_iload_n hx hb dX9_isNothing_46 rfl (lv_at hl 1 rfl) ?_
  refine lv_iadd hx hb dX9_isNothing_47 ?_
  refine lv_icmp_eq (tgt := 55) hx hb dX9_isNothing_48 (by decide) (fun c2 => ?_) (fun c2 => ?_)
  · have h := it_p h c2
    refine lv_iconst (v := (0 : Int32)) hx hb dX9_isNothing_55 (by decide) ?_
    have h9 := Option.some.inj h
    have e9 : (0 : Int32) = r0 := congrArg (fun z9 => z9) h9
    rw [← e9]
    exact k_zret hx hb hr hlocks hP hS rfl rfl dX9_isNothing_56
  have h := it_n h c2
  refine lv_iconst (v := (1 : Int32)) hx hb dX9_isNothing_51 (by decide) ?_
  refine lv_goto (tgt := 56) hx hb dX9_isNothing_52 (by decide) ?_
  have h9 := Option.some.inj h
  have e9 : (1 : Int32) = r0 := congrArg (fun z9 => z9) h9
  rw [← e9]
  exact k_zret hx hb hr hlocks hP hS rfl rfl dX9_isNothing_56
set_option maxHeartbeats 4000000 in
set_option maxRecDepth 100000 in
theorem c_X9_isNothing (l : Launch) (G : va_G) (cI cJ cD cH : ClassId) (sz : Nat) (h_p1 : Nat) (n_p1 : Nat) (a_p1 : Nat → Int32) (p0 : Int32) (p2 : Int32) (p3 : Int32) (r0 : Int32) (hF : F_X9_isNothing n_p1 a_p1 p0 p2 p3 = some r0) : Met l yX9_isNothing wsX9_isNothing ({ frames := 0, cells := 0, slots := 0, locals := 0 }) (k_pre G (k_T cI cJ cD cH) [(h_p1, .inl (cI, n_p1, .inl a_p1))] sz [.int p0, .ref h_p1, .int p2, .int p3]) (va_Qi (fun r (_ : Unit) => r = r0 ∧ narrow .boolean (.int r0) = .int r0) (fun _ t => va_P G vwCl [(h_p1, .inl (cI, n_p1, .inl a_p1))] t.heap) (va_A [(h_p1, .inl (cI, n_p1, .inl a_p1))] sz)) 0 0 (va_A [(h_p1, .inl (cI, n_p1, .inl a_p1))] sz) := by
  refine Met.ofW (cc := cX9_isNothing) (maxL := 6) (ret := (some .boolean)) (by decide) rfl ?_
  intro p e s m args below meth c s₁ B hml hv
  obtain ⟨rfl, hsz, hP, hK, hD0⟩ := hv
  have hx := B.exec
  have hb := B.bytes
  have hr := B.returns
  have hts := atoms_spec (ws := wsX9_isNothing) B.pre
  have hta : ∀ w ∈ wA, w.before ([.int p0, .ref h_p1, .int p2, .int p3] : List Value).toArray s = true := hta_of hts
  have hown : s.vm.findClass RX9 = some m.cls := findClass_of_methodNamed B.named
  have hlocks := B.notSynchronized
  subst hsz
  have hD := hD0.self (sz := s.heap.size)
  generalize hAe : va_A [(h_p1, .inl (cI, n_p1, .inl a_p1))] s.heap.size = A at hD ⊢
  have hA : ∀ q : Nat, s.heap.size ≤ q → A q := fun q h => by rw [← hAe]; exact Or.inr h
  have hS : va_S A s.heap s.heap [] := va_S.rf
  have hl := lv_entry ([.int p0, .ref h_p1, .int p2, .int p3]) (n := 6) (Nat.le_of_ble_eq_true rfl)
  rw [lg_entry_eq]
  generalize (lg_sl ([.int p0, .ref h_p1, .int p2, .int p3]) ++ List.replicate (6 - (lg_sl ([.int p0, .ref h_p1, .int p2, .int p3])).length) Slot.unset).toArray = ls at hl ⊢
  have hl : lv_has ls 6 [(0, .int p0), (1, .ref h_p1), (2, .int p2), (3, .int p3)] := hl
  have h := hF
  unfold F_X9_isNothing at h
  refine lv_iconst (v := (0 : Int32)) hx hb dX9_isNothing_0 (by decide) ?_
  refine lv_istore (lv' := [(4, .int (0 : Int32)), (0, .int p0), (1, .ref h_p1), (2, .int p2), (3, .int p3)]) hx hb dX9_isNothing_1 hl (by decide) rfl (fun ls hl => ?_)
  refine lv_iconst (v := (0 : Int32)) hx hb dX9_isNothing_3 (by decide) ?_
  refine lv_istore (lv' := [(5, .int (0 : Int32)), (4, .int (0 : Int32)), (0, .int p0), (1, .ref h_p1), (2, .int p2), (3, .int p3)]) hx hb dX9_isNothing_4 hl (by decide) rfl (fun ls hl => ?_)
  have hL6 : ∀ (n6 : Nat) (vL6_0 : Int32) (vL6_1 : Int32) (H : Heap) (locs : List Loc) (ls : Array Slot), va_P G vwCl [(h_p1, .inl (cI, n_p1, .inl a_p1))] H → va_D A [(h_p1, .inl (cI, n_p1, .inl a_p1))] → va_S A s.heap H locs → lv_has ls 6 [(0, .int p0), (1, .ref h_p1), (2, .int p2), (3, .int p3), (4, .int vL6_0), (5, .int vL6_1)] → wq2 (B_X9_isNothing_6 n_p1 a_p1 p2 p3 (K_X9_isNothing_6_29 p0 p3)) n6 vL6_0 vL6_1 = some r0 → W p l e (headSpec wsX9_isNothing ({ frames := 0, cells := 0, slots := 0, locals := 0 })).room s m ([.int p0, .ref h_p1, .int p2, .int p3] : List Value).toArray below meth c H locs 0 0 (MQ below (va_Qi (fun r (_ : Unit) => r = r0 ∧ narrow .boolean (.int r0) = .int r0) (fun _ t => va_P G vwCl [(h_p1, .inl (cI, n_p1, .inl a_p1))] t.heap) A) ([.int p0, .ref h_p1, .int p2, .int p3] : List Value).toArray s 0 0 A) (F0 m 6 ls []) := by
    intro n6
    induction n6 with
    | zero => intro vL6_0 vL6_1 H locs ls hP hD hS hl h; exact wq2_0 h
    | succ n6 ih6 =>
      intro vL6_0 vL6_1 H locs ls hP hD hS hl h
      have h := wq2_s h
      unfold B_X9_isNothing_6 at h
      refine lv_iload hx hb dX9_isNothing_6 (lv_at hl 5 rfl) ?_
      refine lv_iload_n hx hb dX9_isNothing_8 rfl (lv_at hl 3 rfl) ?_
      refine lv_icmp_ge (tgt := 29) hx hb dX9_isNothing_9 (by decide) (fun c3 => ?_) (fun c3 => ?_)
      · have h := it_p h c3
        exact tK_X9_isNothing_6_29 hx hb hr hml hts hown hlocks hK hA vL6_0 _ _ _ hP hD hS (lv_sub hl [0, 3, 4] rfl) h
      have h := it_n h c3
      refine lv_iload hx hb dX9_isNothing_12 (lv_at hl 4 rfl) ?_
      refine lv_aload_n hx hb dX9_isNothing_14 rfl (lv_at hl 1 rfl) ?_
      refine lv_iload_n hx hb dX9_isNothing_15 rfl (lv_at hl 2 rfl) ?_
      refine lv_iload hx hb dX9_isNothing_16 (lv_at hl 5 rfl) ?_
      refine lv_iadd hx hb dX9_isNothing_18 ?_
      obtain ⟨hn4, h⟩ := ck_e h
      refine va_iald hx hb hK hP 0 0 rfl rfl hn4 dX9_isNothing_19 ?_
      refine lv_iadd hx hb dX9_isNothing_20 ?_
      refine lv_istore (lv' := [(4, .int (vL6_0 + (a_p1 (p2 + vL6_1).toNatClampNeg))), (0, .int p0), (1, .ref h_p1), (2, .int p2), (3, .int p3), (5, .int vL6_1)]) hx hb dX9_isNothing_21 hl (by decide) rfl (fun ls hl => ?_)
      refine lv_iinc (v := (vL6_1 + (1 : Int32))) (lv' := [(5, .int (vL6_1 + (1 : Int32))), (4, .int (vL6_0 + (a_p1 (p2 + vL6_1).toNatClampNeg))), (0, .int p0), (1, .ref h_p1), (2, .int p2), (3, .int p3)]) hx hb dX9_isNothing_23 hl (k := 5) rfl (by first | rfl | decide) (by decide) rfl (fun ls hl => ?_)
      refine lv_goto (tgt := 6) hx hb dX9_isNothing_26 (by decide) ?_
      exact ih6 (vL6_0 + (a_p1 (p2 + vL6_1).toNatClampNeg)) (vL6_1 + (1 : Int32)) _ _ _ hP hD hS (lv_sub hl [2, 3, 4, 5, 1, 0] rfl) h
  exact hL6 FU (0 : Int32) (0 : Int32) _ _ _ hP hD hS (lv_sub hl [2, 3, 4, 5, 1, 0] rfl) h

/-! X9_often -/
set_option maxHeartbeats 4000000 in
set_option maxRecDepth 100000 in
theorem c_X9_often (l : Launch) (G : va_G) (cI cJ cD cH : ClassId) (sz : Nat) (h_p0 : Nat) (n_p0 : Nat) (a_p0 : Nat → Int32) (p1 : Int32) (p2 : Int32) (p3 : Int32) (r0 : Int32) (hF : F_X9_often n_p0 a_p0 p1 p2 p3 = some r0) : Met l yX9_often wsX9_often ({ frames := 0, cells := 0, slots := 0, locals := 0 }) (k_pre G (k_T cI cJ cD cH) [(h_p0, .inl (cI, n_p0, .inl a_p0))] sz [.ref h_p0, .int p1, .int p2, .int p3]) (va_Qi (fun r (_ : Unit) => r = r0 ∧ True) (fun _ t => va_P G vwCl [(h_p0, .inl (cI, n_p0, .inl a_p0))] t.heap) (va_A [(h_p0, .inl (cI, n_p0, .inl a_p0))] sz)) 0 0 (va_A [(h_p0, .inl (cI, n_p0, .inl a_p0))] sz) := by
  refine Met.ofW (cc := cX9_often) (maxL := 6) (ret := (some .int)) (by decide) rfl ?_
  intro p e s m args below meth c s₁ B hml hv
  obtain ⟨rfl, hsz, hP, hK, hD0⟩ := hv
  have hx := B.exec
  have hb := B.bytes
  have hr := B.returns
  have hts := atoms_spec (ws := wsX9_often) B.pre
  have hta : ∀ w ∈ wA, w.before ([.ref h_p0, .int p1, .int p2, .int p3] : List Value).toArray s = true := hta_of hts
  have hown : s.vm.findClass RX9 = some m.cls := findClass_of_methodNamed B.named
  have hlocks := B.notSynchronized
  subst hsz
  have hD := hD0.self (sz := s.heap.size)
  generalize hAe : va_A [(h_p0, .inl (cI, n_p0, .inl a_p0))] s.heap.size = A at hD ⊢
  have hA : ∀ q : Nat, s.heap.size ≤ q → A q := fun q h => by rw [← hAe]; exact Or.inr h
  have hS : va_S A s.heap s.heap [] := va_S.rf
  have hl := lv_entry ([.ref h_p0, .int p1, .int p2, .int p3]) (n := 6) (Nat.le_of_ble_eq_true rfl)
  rw [lg_entry_eq]
  generalize (lg_sl ([.ref h_p0, .int p1, .int p2, .int p3]) ++ List.replicate (6 - (lg_sl ([.ref h_p0, .int p1, .int p2, .int p3])).length) Slot.unset).toArray = ls at hl ⊢
  have hl : lv_has ls 6 [(0, .ref h_p0), (1, .int p1), (2, .int p2), (3, .int p3)] := hl
  have h := hF
  unfold F_X9_often at h
  refine lv_iconst (v := (0 : Int32)) hx hb dX9_often_0 (by decide) ?_
  refine lv_istore (lv' := [(4, .int (0 : Int32)), (0, .ref h_p0), (1, .int p1), (2, .int p2), (3, .int p3)]) hx hb dX9_often_1 hl (by decide) rfl (fun ls hl => ?_)
  refine lv_iconst (v := (0 : Int32)) hx hb dX9_often_3 (by decide) ?_
  refine lv_istore (lv' := [(5, .int (0 : Int32)), (4, .int (0 : Int32)), (0, .ref h_p0), (1, .int p1), (2, .int p2), (3, .int p3)]) hx hb dX9_often_4 hl (by decide) rfl (fun ls hl => ?_)
  have hK_X9_often_6_38 : ∀  (vK6_38_0 : Int32) (H : Heap) (locs : List Loc) (ls : Array Slot), va_P G vwCl [(h_p0, .inl (cI, n_p0, .inl a_p0))] H → va_D A [(h_p0, .inl (cI, n_p0, .inl a_p0))] → va_S A s.heap H locs → lv_has ls 6 [(4, .int vK6_38_0)] → K_X9_often_6_38 vK6_38_0 = some r0 → W p l e (headSpec wsX9_often ({ frames := 0, cells := 0, slots := 0, locals := 0 })).room s m ([.ref h_p0, .int p1, .int p2, .int p3] : List Value).toArray below meth c H locs 0 0 (MQ below (va_Qi (fun r (_ : Unit) => r = r0 ∧ True) (fun _ t => va_P G vwCl [(h_p0, .inl (cI, n_p0, .inl a_p0))] t.heap) A) ([.ref h_p0, .int p1, .int p2, .int p3] : List Value).toArray s 0 0 A) (F0 m 38 ls []) := by
    intro vK6_38_0 H locs ls hP hD hS hl h
    unfold K_X9_often_6_38 at h
    refine lv_iload hx hb dX9_often_38 (lv_at hl 0 rfl) ?_
    have h9 := Option.some.inj h
    have e9 : vK6_38_0 = r0 := congrArg (fun z9 => z9) h9
    rw [← e9]
    exact k_iret hx hb hr hlocks hP hS rfl dX9_often_40
  have hL6 : ∀ (n6 : Nat) (vL6_0 : Int32) (vL6_1 : Int32) (H : Heap) (locs : List Loc) (ls : Array Slot), va_P G vwCl [(h_p0, .inl (cI, n_p0, .inl a_p0))] H → va_D A [(h_p0, .inl (cI, n_p0, .inl a_p0))] → va_S A s.heap H locs → lv_has ls 6 [(0, .ref h_p0), (1, .int p1), (2, .int p2), (3, .int p3), (4, .int vL6_0), (5, .int vL6_1)] → wq2 (B_X9_often_6 n_p0 a_p0 p1 p2 p3 K_X9_often_6_38) n6 vL6_0 vL6_1 = some r0 → W p l e (headSpec wsX9_often ({ frames := 0, cells := 0, slots := 0, locals := 0 })).room s m ([.ref h_p0, .int p1, .int p2, .int p3] : List Value).toArray below meth c H locs 0 0 (MQ below (va_Qi (fun r (_ : Unit) => r = r0 ∧ True) (fun _ t => va_P G vwCl [(h_p0, .inl (cI, n_p0, .inl a_p0))] t.heap) A) ([.ref h_p0, .int p1, .int p2, .int p3] : List Value).toArray s 0 0 A) (F0 m 6 ls []) := by
    intro n6
    induction n6 with
    | zero => intro vL6_0 vL6_1 H locs ls hP hD hS hl h; exact wq2_0 h
    | succ n6 ih6 =>
      intro vL6_0 vL6_1 H locs ls hP hD hS hl h
      have h := wq2_s h
      unfold B_X9_often_6 at h
      refine lv_iload hx hb dX9_often_6 (lv_at hl 5 rfl) ?_
      refine lv_iload_n hx hb dX9_often_8 rfl (lv_at hl 2 rfl) ?_
      refine lv_icmp_ge (tgt := 38) hx hb dX9_often_9 (by decide) (fun c1 => ?_) (fun c1 => ?_)
      · have h := it_p h c1
        exact hK_X9_often_6_38 vL6_0 _ _ _ hP hD hS (lv_sub hl [4] rfl) h
      have h := it_n h c1
      refine lv_iload hx hb dX9_often_12 (lv_at hl 4 rfl) ?_
      refine lv_aload_n hx hb dX9_often_14 rfl (lv_at hl 0 rfl) ?_
      refine lv_iload_n hx hb dX9_often_15 rfl (lv_at hl 1 rfl) ?_
      refine lv_iload hx hb dX9_often_16 (lv_at hl 5 rfl) ?_
      refine lv_iadd hx hb dX9_often_18 ?_
      obtain ⟨hn2, h⟩ := ck_e h
      refine va_iald hx hb hK hP 0 0 rfl rfl hn2 dX9_often_19 ?_
      refine lv_iload_n hx hb dX9_often_20 rfl (lv_at hl 3 rfl) ?_
      refine lv_icmp_ne (tgt := 28) hx hb dX9_often_21 (by decide) (fun c3 => ?_) (fun c3 => ?_)
      · have h := it_n h c3
        refine lv_iconst (v := (0 : Int32)) hx hb dX9_often_28 (by decide) ?_
        refine lv_iadd hx hb dX9_often_29 ?_
        refine lv_istore (lv' := [(4, .int (vL6_0 + (0 : Int32))), (0, .ref h_p0), (1, .int p1), (2, .int p2), (3, .int p3), (5, .int vL6_1)]) hx hb dX9_often_30 hl (by decide) rfl (fun ls hl => ?_)
        refine lv_iinc (v := (vL6_1 + (1 : Int32))) (lv' := [(5, .int (vL6_1 + (1 : Int32))), (4, .int (vL6_0 + (0 : Int32))), (0, .ref h_p0), (1, .int p1), (2, .int p2), (3, .int p3)]) hx hb dX9_often_32 hl (k := 5) rfl (by first | rfl | decide) (by decide) rfl (fun ls hl => ?_)
        refine lv_goto (tgt := 6) hx hb dX9_often_35 (by decide) ?_
        exact ih6 (vL6_0 + (0 : Int32)) (vL6_1 + (1 : Int32)) _ _ _ hP hD hS (lv_sub hl [2, 3, 4, 5, 1, 0] rfl) h
      have h := it_p h c3
      refine lv_iconst (v := (1 : Int32)) hx hb dX9_often_24 (by decide) ?_
      refine lv_goto (tgt := 29) hx hb dX9_often_25 (by decide) ?_
      refine lv_iadd hx hb dX9_often_29 ?_
      refine lv_istore (lv' := [(4, .int (vL6_0 + (1 : Int32))), (0, .ref h_p0), (1, .int p1), (2, .int p2), (3, .int p3), (5, .int vL6_1)]) hx hb dX9_often_30 hl (by decide) rfl (fun ls hl => ?_)
      refine lv_iinc (v := (vL6_1 + (1 : Int32))) (lv' := [(5, .int (vL6_1 + (1 : Int32))), (4, .int (vL6_0 + (1 : Int32))), (0, .ref h_p0), (1, .int p1), (2, .int p2), (3, .int p3)]) hx hb dX9_often_32 hl (k := 5) rfl (by first | rfl | decide) (by decide) rfl (fun ls hl => ?_)
      refine lv_goto (tgt := 6) hx hb dX9_often_35 (by decide) ?_
      exact ih6 (vL6_0 + (1 : Int32)) (vL6_1 + (1 : Int32)) _ _ _ hP hD hS (lv_sub hl [2, 3, 4, 5, 1, 0] rfl) h
  exact hL6 FU (0 : Int32) (0 : Int32) _ _ _ hP hD hS (lv_sub hl [2, 3, 4, 5, 1, 0] rfl) h

/-! X9_base -/
set_option maxHeartbeats 4000000 in
set_option maxRecDepth 100000 in
theorem tJ_X9_base_100 {l : Launch} {G : va_G} {cI cJ cD cH : ClassId} {h_p1 : Nat} {n_p1 : Nat} {a_p1 : Nat → Int32} {p0 : Int32} {p2 : Int32} {p3 : Int32} {r0 : Int64} {p : Program} {e : Env} {s : State} {m : MethodId} {below : List Frame} {meth : Method} {c : Code} {A : Nat → Prop} (hx : p.tables.exec = Jvm.exec) (hb : c.code = cX9_base) (hr : meth.sig.returnType = (some .long)) (hml : c.maxLocals = 4) (hts : ∀ w ∈ wsX9_base, w.before ([.int p0, .ref h_p1, .int p2, .int p3] : List Value).toArray s = true) (hown : s.vm.findClass RX9 = some m.cls) (hlocks : meth.locks = false) (hK : va_K G vwCl (k_T cI cJ cD cH) s) (hA : ∀ q : Nat, s.heap.size ≤ q → A q) : ∀ (H : Heap) (locs : List Loc) (ls : Array Slot), va_P G vwCl [(h_p1, .inl (cI, n_p1, .inl a_p1))] H → va_D A [(h_p1, .inl (cI, n_p1, .inl a_p1))] → va_S A s.heap H locs → lv_has ls 4 [(1, .ref h_p1), (2, .int p2), (3, .int p3)] → J_X9_base_100 n_p1 a_p1 p2 p3 = some r0 → W p l e (headSpec wsX9_base ({ frames := 1, cells := 0, slots := 0, locals := 25 })).room s m ([.int p0, .ref h_p1, .int p2, .int p3] : List Value).toArray below meth c H locs 0 0 (MQ below (va_Ql (fun r (_ : Unit) => r = r0 ∧ True) (fun _ t => va_P G vwCl [(h_p1, .inl (cI, n_p1, .inl a_p1))] t.heap) A) ([.int p0, .ref h_p1, .int p2, .int p3] : List Value).toArray s 0 0 A) (F0 m 100 ls []) := by
  have hta : ∀ w ∈ wA, w.before ([.int p0, .ref h_p1, .int p2, .int p3] : List Value).toArray s = true := hta_of hts
  intro  H locs ls hP hD hS hl h
  unfold J_X9_base_100 at h
  refine lv_iload_n hx hb dX9_base_100 rfl (lv_at hl 2 rfl) ?_
  refine lv_iconst (v := (3 : Int32)) hx hb dX9_base_101 (by decide) ?_
  refine lv_icmp_ne (tgt := 122) hx hb dX9_base_102 (by decide) (fun c3 => ?_) (fun c3 => ?_)
  · have h := it_n h c3
    refine lv_ldc2 (v := (-1 : Int64)) hx hb hown (hta _ mw_686) dX9_base_122 ?_
    have h9 := Option.some.inj h
    have e9 : (-1 : Int64) = r0 := congrArg (fun z9 => z9) h9
    rw [← e9]
    exact k_lret hx hb hr hlocks hP hS rfl dX9_base_125
  have h := it_p h c3
  refine lv_aload_n hx hb dX9_base_105 rfl (lv_at hl 0 rfl) ?_
  refine lv_iload_n hx hb dX9_base_106 rfl (lv_at hl 1 rfl) ?_
  refine lv_iload_n hx hb dX9_base_107 rfl (lv_at hl 2 rfl) ?_
  refine lv_iconst (v := (2 : Int32)) hx hb dX9_base_108 (by decide) ?_
  obtain ⟨x4, hx4, h⟩ := bd_e h
  try dsimp only at h
  refine k_SiU (n := 4) (As := [.ref h_p1, .int p2, .int p3, .int (2 : Int32)]) (rest := []) hx hb hml hown hts (c_X9_often l G cI cJ cD cH H.size h_p1 n_p1 a_p1 p2 p3 (2 : Int32) x4 hx4) gX9_base_X9_often rfl rfl rfl (by decide +kernel) ⟨by first | exact Nat.le_of_ble_eq_true rfl | (simp only [headSpec]; omega), by first | exact Nat.le_of_ble_eq_true rfl | (simp only [headSpec]; omega)⟩ hK hP hD hS hA [0] (by decide) rfl rfl rfl hl.1 (Nat.le_of_ble_eq_true rfl) dX9_base_109 ⟨Nat.zero_le _, Nat.zero_le _⟩ (fun hp4 H locs hP hS => ?_)
  refine lv_iconst (v := (3 : Int32)) hx hb dX9_base_112 (by decide) ?_
  refine lv_icmp_ne (tgt := 122) hx hb dX9_base_113 (by decide) (fun c5 => ?_) (fun c5 => ?_)
  · have h := it_n h c5
    refine lv_ldc2 (v := (-1 : Int64)) hx hb hown (hta _ mw_686) dX9_base_122 ?_
    have h9 := Option.some.inj h
    have e9 : (-1 : Int64) = r0 := congrArg (fun z9 => z9) h9
    rw [← e9]
    exact k_lret hx hb hr hlocks hP hS rfl dX9_base_125
  have h := it_p h c5
  refine lv_ldc2 (v := (168 : Int64)) hx hb hown (hta _ mw_689) dX9_base_116 ?_
  refine lv_goto (tgt := 125) hx hb dX9_base_119 (by decide) ?_
  have h9 := Option.some.inj h
  have e9 : (168 : Int64) = r0 := congrArg (fun z9 => z9) h9
  rw [← e9]
  exact k_lret hx hb hr hlocks hP hS rfl dX9_base_125
set_option maxHeartbeats 4000000 in
set_option maxRecDepth 100000 in
theorem tJ_X9_base_69 {l : Launch} {G : va_G} {cI cJ cD cH : ClassId} {h_p1 : Nat} {n_p1 : Nat} {a_p1 : Nat → Int32} {p0 : Int32} {p2 : Int32} {p3 : Int32} {r0 : Int64} {p : Program} {e : Env} {s : State} {m : MethodId} {below : List Frame} {meth : Method} {c : Code} {A : Nat → Prop} (hx : p.tables.exec = Jvm.exec) (hb : c.code = cX9_base) (hr : meth.sig.returnType = (some .long)) (hml : c.maxLocals = 4) (hts : ∀ w ∈ wsX9_base, w.before ([.int p0, .ref h_p1, .int p2, .int p3] : List Value).toArray s = true) (hown : s.vm.findClass RX9 = some m.cls) (hlocks : meth.locks = false) (hK : va_K G vwCl (k_T cI cJ cD cH) s) (hA : ∀ q : Nat, s.heap.size ≤ q → A q) : ∀ (H : Heap) (locs : List Loc) (ls : Array Slot), va_P G vwCl [(h_p1, .inl (cI, n_p1, .inl a_p1))] H → va_D A [(h_p1, .inl (cI, n_p1, .inl a_p1))] → va_S A s.heap H locs → lv_has ls 4 [(1, .ref h_p1), (2, .int p2), (3, .int p3)] → J_X9_base_69 n_p1 a_p1 p2 p3 = some r0 → W p l e (headSpec wsX9_base ({ frames := 1, cells := 0, slots := 0, locals := 25 })).room s m ([.int p0, .ref h_p1, .int p2, .int p3] : List Value).toArray below meth c H locs 0 0 (MQ below (va_Ql (fun r (_ : Unit) => r = r0 ∧ True) (fun _ t => va_P G vwCl [(h_p1, .inl (cI, n_p1, .inl a_p1))] t.heap) A) ([.int p0, .ref h_p1, .int p2, .int p3] : List Value).toArray s 0 0 A) (F0 m 69 ls []) := by
  have hta : ∀ w ∈ wA, w.before ([.int p0, .ref h_p1, .int p2, .int p3] : List Value).toArray s = true := hta_of hts
  intro  H locs ls hP hD hS hl h
  unfold J_X9_base_69 at h
  refine lv_iload_n hx hb dX9_base_69 rfl (lv_at hl 2 rfl) ?_
  refine lv_iconst (v := (2 : Int32)) hx hb dX9_base_70 (by decide) ?_
  refine lv_icmp_ne (tgt := 100) hx hb dX9_base_71 (by decide) (fun c6 => ?_) (fun c6 => ?_)
  · have h := it_n h c6
    exact tJ_X9_base_100 hx hb hr hml hts hown hlocks hK hA  _ _ _ hP hD hS (lv_sub hl [0, 1, 2] rfl) h
  have h := it_p h c6
  refine lv_aload_n hx hb dX9_base_74 rfl (lv_at hl 0 rfl) ?_
  refine lv_iload_n hx hb dX9_base_75 rfl (lv_at hl 1 rfl) ?_
  refine lv_iload_n hx hb dX9_base_76 rfl (lv_at hl 2 rfl) ?_
  refine lv_iconst (v := (2 : Int32)) hx hb dX9_base_77 (by decide) ?_
  obtain ⟨x7, hx7, h⟩ := bd_e h
  try dsimp only at h
  refine k_SiU (n := 4) (As := [.ref h_p1, .int p2, .int p3, .int (2 : Int32)]) (rest := []) hx hb hml hown hts (c_X9_often l G cI cJ cD cH H.size h_p1 n_p1 a_p1 p2 p3 (2 : Int32) x7 hx7) gX9_base_X9_often rfl rfl rfl (by decide +kernel) ⟨by first | exact Nat.le_of_ble_eq_true rfl | (simp only [headSpec]; omega), by first | exact Nat.le_of_ble_eq_true rfl | (simp only [headSpec]; omega)⟩ hK hP hD hS hA [0] (by decide) rfl rfl rfl hl.1 (Nat.le_of_ble_eq_true rfl) dX9_base_78 ⟨Nat.zero_le _, Nat.zero_le _⟩ (fun hp7 H locs hP hS => ?_)
  refine lv_iconst (v := (1 : Int32)) hx hb dX9_base_81 (by decide) ?_
  refine lv_icmp_ne (tgt := 100) hx hb dX9_base_82 (by decide) (fun c8 => ?_) (fun c8 => ?_)
  · have h := it_n h c8
    exact tJ_X9_base_100 hx hb hr hml hts hown hlocks hK hA  _ _ _ hP hD hS (lv_sub hl [0, 1, 2] rfl) h
  have h := it_p h c8
  refine lv_aload_n hx hb dX9_base_85 rfl (lv_at hl 0 rfl) ?_
  refine lv_iload_n hx hb dX9_base_86 rfl (lv_at hl 1 rfl) ?_
  refine lv_iload_n hx hb dX9_base_87 rfl (lv_at hl 2 rfl) ?_
  refine lv_iconst (v := (3 : Int32)) hx hb dX9_base_88 (by decide) ?_
  obtain ⟨x9, hx9, h⟩ := bd_e h
  try dsimp only at h
  refine k_SiU (n := 4) (As := [.ref h_p1, .int p2, .int p3, .int (3 : Int32)]) (rest := []) hx hb hml hown hts (c_X9_often l G cI cJ cD cH H.size h_p1 n_p1 a_p1 p2 p3 (3 : Int32) x9 hx9) gX9_base_X9_often rfl rfl rfl (by decide +kernel) ⟨by first | exact Nat.le_of_ble_eq_true rfl | (simp only [headSpec]; omega), by first | exact Nat.le_of_ble_eq_true rfl | (simp only [headSpec]; omega)⟩ hK hP hD hS hA [0] (by decide) rfl rfl rfl hl.1 (Nat.le_of_ble_eq_true rfl) dX9_base_89 ⟨Nat.zero_le _, Nat.zero_le _⟩ (fun hp9 H locs hP hS => ?_)
  refine lv_iconst (v := (1 : Int32)) hx hb dX9_base_92 (by decide) ?_
  refine lv_icmp_ne (tgt := 100) hx hb dX9_base_93 (by decide) (fun c10 => ?_) (fun c10 => ?_)
  · have h := it_n h c10
    exact tJ_X9_base_100 hx hb hr hml hts hown hlocks hK hA  _ _ _ hP hD hS (lv_sub hl [0, 1, 2] rfl) h
  have h := it_p h c10
  refine lv_ldc2 (v := (29 : Int64)) hx hb hown (hta _ mw_688) dX9_base_96 ?_
  have h9 := Option.some.inj h
  have e9 : (29 : Int64) = r0 := congrArg (fun z9 => z9) h9
  rw [← e9]
  exact k_lret hx hb hr hlocks hP hS rfl dX9_base_99
set_option maxHeartbeats 4000000 in
set_option maxRecDepth 100000 in
theorem c_X9_base (l : Launch) (G : va_G) (cI cJ cD cH : ClassId) (sz : Nat) (h_p1 : Nat) (n_p1 : Nat) (a_p1 : Nat → Int32) (p0 : Int32) (p2 : Int32) (p3 : Int32) (r0 : Int64) (hF : F_X9_base n_p1 a_p1 p0 p2 p3 = some r0) : Met l yX9_base wsX9_base ({ frames := 1, cells := 0, slots := 0, locals := 25 }) (k_pre G (k_T cI cJ cD cH) [(h_p1, .inl (cI, n_p1, .inl a_p1))] sz [.int p0, .ref h_p1, .int p2, .int p3]) (va_Ql (fun r (_ : Unit) => r = r0 ∧ True) (fun _ t => va_P G vwCl [(h_p1, .inl (cI, n_p1, .inl a_p1))] t.heap) (va_A [(h_p1, .inl (cI, n_p1, .inl a_p1))] sz)) 0 0 (va_A [(h_p1, .inl (cI, n_p1, .inl a_p1))] sz) := by
  refine Met.ofW (cc := cX9_base) (maxL := 4) (ret := (some .long)) (by decide) rfl ?_
  intro p e s m args below meth c s₁ B hml hv
  obtain ⟨rfl, hsz, hP, hK, hD0⟩ := hv
  have hx := B.exec
  have hb := B.bytes
  have hr := B.returns
  have hts := atoms_spec (ws := wsX9_base) B.pre
  have hta : ∀ w ∈ wA, w.before ([.int p0, .ref h_p1, .int p2, .int p3] : List Value).toArray s = true := hta_of hts
  have hown : s.vm.findClass RX9 = some m.cls := findClass_of_methodNamed B.named
  have hlocks := B.notSynchronized
  subst hsz
  have hD := hD0.self (sz := s.heap.size)
  generalize hAe : va_A [(h_p1, .inl (cI, n_p1, .inl a_p1))] s.heap.size = A at hD ⊢
  have hA : ∀ q : Nat, s.heap.size ≤ q → A q := fun q h => by rw [← hAe]; exact Or.inr h
  have hS : va_S A s.heap s.heap [] := va_S.rf
  have hl := lv_entry ([.int p0, .ref h_p1, .int p2, .int p3]) (n := 4) (Nat.le_of_ble_eq_true rfl)
  rw [lg_entry_eq]
  generalize (lg_sl ([.int p0, .ref h_p1, .int p2, .int p3]) ++ List.replicate (4 - (lg_sl ([.int p0, .ref h_p1, .int p2, .int p3])).length) Slot.unset).toArray = ls at hl ⊢
  have hl : lv_has ls 4 [(0, .int p0), (1, .ref h_p1), (2, .int p2), (3, .int p3)] := hl
  have h := hF
  unfold F_X9_base at h
  refine lv_iload_n hx hb dX9_base_0 rfl (lv_at hl 0 rfl) ?_
  refine lv_if_ne (tgt := 28) hx hb dX9_base_1 (by decide) (fun c1 => ?_) (fun c1 => ?_)
  rotate_left
  · have h := it_p h c1
    refine lv_iload_n hx hb dX9_base_4 rfl (lv_at hl 3 rfl) ?_
    refine lv_iconst (v := (3 : Int32)) hx hb dX9_base_5 (by decide) ?_
    refine lv_icmp_ne (tgt := 24) hx hb dX9_base_6 (by decide) (fun c17 => ?_) (fun c17 => ?_)
    · have h := it_n h c17
      refine lv_ldc2 (v := (-1 : Int64)) hx hb hown (hta _ mw_686) dX9_base_24 ?_
      have h9 := Option.some.inj h
      have e9 : (-1 : Int64) = r0 := congrArg (fun z9 => z9) h9
      rw [← e9]
      exact k_lret hx hb hr hlocks hP hS rfl dX9_base_27
    have h := it_p h c17
    refine lv_aload_n hx hb dX9_base_9 rfl (lv_at hl 1 rfl) ?_
    refine lv_iload_n hx hb dX9_base_10 rfl (lv_at hl 2 rfl) ?_
    refine lv_iload_n hx hb dX9_base_11 rfl (lv_at hl 3 rfl) ?_
    refine lv_iconst (v := (0 : Int32)) hx hb dX9_base_12 (by decide) ?_
    obtain ⟨x18, hx18, h⟩ := bd_e h
    try dsimp only at h
    refine k_SiU (n := 4) (As := [.ref h_p1, .int p2, .int p3, .int (0 : Int32)]) (rest := []) hx hb hml hown hts (c_X9_often l G cI cJ cD cH s.heap.size h_p1 n_p1 a_p1 p2 p3 (0 : Int32) x18 hx18) gX9_base_X9_often rfl rfl rfl (by decide +kernel) ⟨by first | exact Nat.le_of_ble_eq_true rfl | (simp only [headSpec]; omega), by first | exact Nat.le_of_ble_eq_true rfl | (simp only [headSpec]; omega)⟩ hK hP hD hS hA [0] (by decide) rfl rfl rfl hl.1 (Nat.le_of_ble_eq_true rfl) dX9_base_13 ⟨Nat.zero_le _, Nat.zero_le _⟩ (fun hp18 H locs hP hS => ?_)
    refine lv_iconst (v := (3 : Int32)) hx hb dX9_base_16 (by decide) ?_
    refine lv_icmp_ne (tgt := 24) hx hb dX9_base_17 (by decide) (fun c19 => ?_) (fun c19 => ?_)
    · have h := it_n h c19
      refine lv_ldc2 (v := (-1 : Int64)) hx hb hown (hta _ mw_686) dX9_base_24 ?_
      have h9 := Option.some.inj h
      have e9 : (-1 : Int64) = r0 := congrArg (fun z9 => z9) h9
      rw [← e9]
      exact k_lret hx hb hr hlocks hP hS rfl dX9_base_27
    have h := it_p h c19
    refine lv_lconst (v := (1 : Int64)) hx hb dX9_base_20 (by decide) ?_
    refine lv_goto (tgt := 27) hx hb dX9_base_21 (by decide) ?_
    have h9 := Option.some.inj h
    have e9 : (1 : Int64) = r0 := congrArg (fun z9 => z9) h9
    rw [← e9]
    exact k_lret hx hb hr hlocks hP hS rfl dX9_base_27
  have h := it_n h c1
  refine lv_iload_n hx hb dX9_base_28 rfl (lv_at hl 0 rfl) ?_
  refine lv_iconst (v := (1 : Int32)) hx hb dX9_base_29 (by decide) ?_
  refine lv_icmp_ne (tgt := 53) hx hb dX9_base_30 (by decide) (fun c2 => ?_) (fun c2 => ?_)
  · have h := it_n h c2
    refine lv_iload_n hx hb dX9_base_53 rfl (lv_at hl 3 rfl) ?_
    refine lv_iconst (v := (1 : Int32)) hx hb dX9_base_54 (by decide) ?_
    refine lv_icmp_ne (tgt := 69) hx hb dX9_base_55 (by decide) (fun c11 => ?_) (fun c11 => ?_)
    · have h := it_n h c11
      exact tJ_X9_base_69 hx hb hr hml hts hown hlocks hK hA  _ _ _ hP hD hS (lv_sub hl [1, 2, 3] rfl) h
    have h := it_p h c11
    refine lv_aload_n hx hb dX9_base_58 rfl (lv_at hl 1 rfl) ?_
    refine lv_iload_n hx hb dX9_base_59 rfl (lv_at hl 2 rfl) ?_
    obtain ⟨hn12, h⟩ := ck_e h
    refine va_iald hx hb hK hP 0 0 rfl rfl hn12 dX9_base_60 ?_
    refine lv_iconst (v := (4 : Int32)) hx hb dX9_base_61 (by decide) ?_
    refine lv_icmp_ne (tgt := 69) hx hb dX9_base_62 (by decide) (fun c13 => ?_) (fun c13 => ?_)
    · have h := it_n h c13
      exact tJ_X9_base_69 hx hb hr hml hts hown hlocks hK hA  _ _ _ hP hD hS (lv_sub hl [1, 2, 3] rfl) h
    have h := it_p h c13
    refine lv_ldc2 (v := (5 : Int64)) hx hb hown (hta _ mw_687) dX9_base_65 ?_
    have h9 := Option.some.inj h
    have e9 : (5 : Int64) = r0 := congrArg (fun z9 => z9) h9
    rw [← e9]
    exact k_lret hx hb hr hlocks hP hS rfl dX9_base_68
  have h := it_p h c2
  refine lv_iload_n hx hb dX9_base_33 rfl (lv_at hl 3 rfl) ?_
  refine lv_iconst (v := (1 : Int32)) hx hb dX9_base_34 (by decide) ?_
  refine lv_icmp_ne (tgt := 49) hx hb dX9_base_35 (by decide) (fun c14 => ?_) (fun c14 => ?_)
  · have h := it_n h c14
    refine lv_ldc2 (v := (-1 : Int64)) hx hb hown (hta _ mw_686) dX9_base_49 ?_
    have h9 := Option.some.inj h
    have e9 : (-1 : Int64) = r0 := congrArg (fun z9 => z9) h9
    rw [← e9]
    exact k_lret hx hb hr hlocks hP hS rfl dX9_base_52
  have h := it_p h c14
  refine lv_aload_n hx hb dX9_base_38 rfl (lv_at hl 1 rfl) ?_
  refine lv_iload_n hx hb dX9_base_39 rfl (lv_at hl 2 rfl) ?_
  obtain ⟨hn15, h⟩ := ck_e h
  refine va_iald hx hb hK hP 0 0 rfl rfl hn15 dX9_base_40 ?_
  refine lv_iconst (v := (1 : Int32)) hx hb dX9_base_41 (by decide) ?_
  refine lv_icmp_ne (tgt := 49) hx hb dX9_base_42 (by decide) (fun c16 => ?_) (fun c16 => ?_)
  · have h := it_n h c16
    refine lv_ldc2 (v := (-1 : Int64)) hx hb hown (hta _ mw_686) dX9_base_49 ?_
    have h9 := Option.some.inj h
    have e9 : (-1 : Int64) = r0 := congrArg (fun z9 => z9) h9
    rw [← e9]
    exact k_lret hx hb hr hlocks hP hS rfl dX9_base_52
  have h := it_p h c16
  refine lv_lconst (v := (1 : Int64)) hx hb dX9_base_45 (by decide) ?_
  refine lv_goto (tgt := 52) hx hb dX9_base_46 (by decide) ?_
  have h9 := Option.some.inj h
  have e9 : (1 : Int64) = r0 := congrArg (fun z9 => z9) h9
  rw [← e9]
  exact k_lret hx hb hr hlocks hP hS rfl dX9_base_52

/-! X9_leaves -/
set_option maxHeartbeats 4000000 in
set_option maxRecDepth 100000 in
theorem c_X9_leaves (l : Launch) (G : va_G) (cI cJ cD cH : ClassId) (sz : Nat) (h_p0 : Nat) (n_p0 : Nat) (a_p0 : Nat → Int32) (p1 : Int32) (p2 : Int32) (p3 : Int32) (p4 : Int32) (p5 : Int32) (w0 : Nat → Int32) (hF : F_X9_leaves n_p0 a_p0 p1 p2 p3 p4 p5 = some w0) : Met l yX9_leaves wsX9_leaves ({ frames := 0, cells := 0, slots := 0, locals := 0 }) (k_pre G (k_T cI cJ cD cH) [(h_p0, .inl (cI, n_p0, .inl a_p0))] sz [.ref h_p0, .int p1, .int p2, .int p3, .int p4, .int p5]) (va_Qv (fun (_ : Unit) => True) (fun _ t => va_P G vwCl [(h_p0, .inl (cI, n_p0, .inl w0))] t.heap) (va_A [(h_p0, .inl (cI, n_p0, .inl a_p0))] sz)) 0 0 (va_A [(h_p0, .inl (cI, n_p0, .inl a_p0))] sz) := by
  refine Met.ofW (cc := cX9_leaves) (maxL := 11) (ret := none) (by decide) rfl ?_
  intro p e s m args below meth c s₁ B hml hv
  obtain ⟨rfl, hsz, hP, hK, hD0⟩ := hv
  have hx := B.exec
  have hb := B.bytes
  have hr := B.returns
  have hts := atoms_spec (ws := wsX9_leaves) B.pre
  have hta : ∀ w ∈ wA, w.before ([.ref h_p0, .int p1, .int p2, .int p3, .int p4, .int p5] : List Value).toArray s = true := hta_of hts
  have hown : s.vm.findClass RX9 = some m.cls := findClass_of_methodNamed B.named
  have hlocks := B.notSynchronized
  subst hsz
  have hD := hD0.self (sz := s.heap.size)
  generalize hAe : va_A [(h_p0, .inl (cI, n_p0, .inl a_p0))] s.heap.size = A at hD ⊢
  have hA : ∀ q : Nat, s.heap.size ≤ q → A q := fun q h => by rw [← hAe]; exact Or.inr h
  have hS : va_S A s.heap s.heap [] := va_S.rf
  have hl := lv_entry ([.ref h_p0, .int p1, .int p2, .int p3, .int p4, .int p5]) (n := 11) (Nat.le_of_ble_eq_true rfl)
  rw [lg_entry_eq]
  generalize (lg_sl ([.ref h_p0, .int p1, .int p2, .int p3, .int p4, .int p5]) ++ List.replicate (11 - (lg_sl ([.ref h_p0, .int p1, .int p2, .int p3, .int p4, .int p5])).length) Slot.unset).toArray = ls at hl ⊢
  have hl : lv_has ls 11 [(0, .ref h_p0), (1, .int p1), (2, .int p2), (3, .int p3), (4, .int p4), (5, .int p5)] := hl
  have h := hF
  unfold F_X9_leaves at h
  refine lv_iconst (v := (0 : Int32)) hx hb dX9_leaves_0 (by decide) ?_
  refine lv_istore (lv' := [(6, .int (0 : Int32)), (0, .ref h_p0), (1, .int p1), (2, .int p2), (3, .int p3), (4, .int p4), (5, .int p5)]) hx hb dX9_leaves_1 hl (by decide) rfl (fun ls hl => ?_)
  refine lv_iconst (v := (1 : Int32)) hx hb dX9_leaves_3 (by decide) ?_
  refine lv_istore (lv' := [(7, .int (1 : Int32)), (6, .int (0 : Int32)), (0, .ref h_p0), (1, .int p1), (2, .int p2), (3, .int p3), (4, .int p4), (5, .int p5)]) hx hb dX9_leaves_4 hl (by decide) rfl (fun ls hl => ?_)
  refine lv_iload hx hb dX9_leaves_6 (lv_at hl 6 rfl) ?_
  refine lv_if_le (tgt := 15) hx hb dX9_leaves_8 (by decide) (fun c1 => ?_) (fun c1 => ?_)
  · have h := it_p h c1
    refine lv_iconst (v := (0 : Int32)) hx hb dX9_leaves_15 (by decide) ?_
    refine lv_istore (lv' := [(8, .int (0 : Int32)), (7, .int (1 : Int32)), (6, .int (0 : Int32)), (0, .ref h_p0), (1, .int p1), (2, .int p2), (3, .int p3), (4, .int p4), (5, .int p5)]) hx hb dX9_leaves_16 hl (by decide) rfl (fun ls hl => ?_)
    refine lv_iconst (v := (0 : Int32)) hx hb dX9_leaves_18 (by decide) ?_
    refine lv_istore (lv' := [(9, .int (0 : Int32)), (8, .int (0 : Int32)), (7, .int (1 : Int32)), (6, .int (0 : Int32)), (0, .ref h_p0), (1, .int p1), (2, .int p2), (3, .int p3), (4, .int p4), (5, .int p5)]) hx hb dX9_leaves_19 hl (by decide) rfl (fun ls hl => ?_)
    have hK_X9_leaves_21_88 : ∀  (vK21_88_0 : Nat → Int32) (H : Heap) (locs : List Loc) (ls : Array Slot), va_P G vwCl [(h_p0, .inl (cI, n_p0, .inl vK21_88_0))] H → va_D A [(h_p0, .inl (cI, n_p0, .inl vK21_88_0))] → va_S A s.heap H locs → lv_has ls 11 [] → K_X9_leaves_21_88 vK21_88_0 = some w0 → W p l e (headSpec wsX9_leaves ({ frames := 0, cells := 0, slots := 0, locals := 0 })).room s m ([.ref h_p0, .int p1, .int p2, .int p3, .int p4, .int p5] : List Value).toArray below meth c H locs 0 0 (MQ below (va_Qv (fun (_ : Unit) => True) (fun _ t => va_P G vwCl [(h_p0, .inl (cI, n_p0, .inl w0))] t.heap) A) ([.ref h_p0, .int p1, .int p2, .int p3, .int p4, .int p5] : List Value).toArray s 0 0 A) (F0 m 88 ls []) := by
      intro vK21_88_0 H locs ls hP hD hS hl h
      unfold K_X9_leaves_21_88 at h
      have h9 := Option.some.inj h
      have e9 : vK21_88_0 = w0 := congrArg (fun z9 => z9) h9
      rw [← e9]
      exact k_vret hx hb hr hlocks hP hS dX9_leaves_88
    have hL21 : ∀ (n21 : Nat) (vL21_0 : Nat → Int32) (vL21_1 : Int32) (vL21_2 : Int32) (vL21_3 : Int32) (vL21_4 : Int32) (H : Heap) (locs : List Loc) (ls : Array Slot), va_P G vwCl [(h_p0, .inl (cI, n_p0, .inl vL21_0))] H → va_D A [(h_p0, .inl (cI, n_p0, .inl vL21_0))] → va_S A s.heap H locs → lv_has ls 11 [(0, .ref h_p0), (1, .int p1), (2, .int p2), (3, .int p3), (4, .int p4), (5, .int p5), (6, .int vL21_1), (7, .int vL21_2), (8, .int vL21_3), (9, .int vL21_4)] → wq5 (B_X9_leaves_21 n_p0 p1 p2 p3 p4 p5 K_X9_leaves_21_88) n21 vL21_0 vL21_1 vL21_2 vL21_3 vL21_4 = some w0 → W p l e (headSpec wsX9_leaves ({ frames := 0, cells := 0, slots := 0, locals := 0 })).room s m ([.ref h_p0, .int p1, .int p2, .int p3, .int p4, .int p5] : List Value).toArray below meth c H locs 0 0 (MQ below (va_Qv (fun (_ : Unit) => True) (fun _ t => va_P G vwCl [(h_p0, .inl (cI, n_p0, .inl w0))] t.heap) A) ([.ref h_p0, .int p1, .int p2, .int p3, .int p4, .int p5] : List Value).toArray s 0 0 A) (F0 m 21 ls []) := by
      intro n21
      induction n21 with
      | zero => intro vL21_0 vL21_1 vL21_2 vL21_3 vL21_4 H locs ls hP hD hS hl h; exact wq5_0 h
      | succ n21 ih21 =>
        intro vL21_0 vL21_1 vL21_2 vL21_3 vL21_4 H locs ls hP hD hS hl h
        have h := wq5_s h
        unfold B_X9_leaves_21 at h
        refine lv_iload hx hb dX9_leaves_21 (lv_at hl 9 rfl) ?_
        refine lv_iload_n hx hb dX9_leaves_23 rfl (lv_at hl 2 rfl) ?_
        refine lv_icmp_ge (tgt := 88) hx hb dX9_leaves_24 (by decide) (fun c2 => ?_) (fun c2 => ?_)
        · have h := it_p h c2
          exact hK_X9_leaves_21_88 vL21_0 _ _ _ hP hD hS (lv_sub hl [] rfl) h
        have h := it_n h c2
        refine lv_aload_n hx hb dX9_leaves_27 rfl (lv_at hl 0 rfl) ?_
        refine lv_iload_n hx hb dX9_leaves_28 rfl (lv_at hl 1 rfl) ?_
        refine lv_iload hx hb dX9_leaves_29 (lv_at hl 9 rfl) ?_
        refine lv_iadd hx hb dX9_leaves_31 ?_
        obtain ⟨hn3, h⟩ := ck_e h
        refine va_iald hx hb hK hP 0 0 rfl rfl hn3 dX9_leaves_32 ?_
        refine lv_istore (lv' := [(10, .int (vL21_0 (p1 + vL21_4).toNatClampNeg)), (0, .ref h_p0), (1, .int p1), (2, .int p2), (3, .int p3), (4, .int p4), (5, .int p5), (6, .int vL21_1), (7, .int vL21_2), (8, .int vL21_3), (9, .int vL21_4)]) hx hb dX9_leaves_33 hl (by decide) rfl (fun ls hl => ?_)
        refine lv_iload hx hb dX9_leaves_35 (lv_at hl 8 rfl) ?_
        have hJ_X9_leaves_52 : ∀ (H : Heap) (locs : List Loc) (ls : Array Slot), va_P G vwCl [(h_p0, .inl (cI, n_p0, .inl vL21_0))] H → va_D A [(h_p0, .inl (cI, n_p0, .inl vL21_0))] → va_S A s.heap H locs → lv_has ls 11 [(0, .ref h_p0), (1, .int p1), (2, .int p2), (3, .int p3), (4, .int p4), (5, .int p5), (6, .int vL21_1), (7, .int vL21_2), (8, .int vL21_3), (9, .int vL21_4), (10, .int (vL21_0 (p1 + vL21_4).toNatClampNeg))] → J_X9_leaves_52 n_p0 p1 p4 p5 vL21_0 vL21_1 vL21_2 vL21_3 vL21_4 (wq5 (B_X9_leaves_21 n_p0 p1 p2 p3 p4 p5 K_X9_leaves_21_88) n21) = some w0 → W p l e (headSpec wsX9_leaves ({ frames := 0, cells := 0, slots := 0, locals := 0 })).room s m ([.ref h_p0, .int p1, .int p2, .int p3, .int p4, .int p5] : List Value).toArray below meth c H locs 0 0 (MQ below (va_Qv (fun (_ : Unit) => True) (fun _ t => va_P G vwCl [(h_p0, .inl (cI, n_p0, .inl w0))] t.heap) A) ([.ref h_p0, .int p1, .int p2, .int p3, .int p4, .int p5] : List Value).toArray s 0 0 A) (F0 m 52 ls []) := by
          intro  H locs ls hP hD hS hl h
          unfold J_X9_leaves_52 at h
          refine lv_iload hx hb dX9_leaves_52 (lv_at hl 8 rfl) ?_
          refine lv_if_eq (tgt := 70) hx hb dX9_leaves_54 (by decide) (fun c4 => ?_) (fun c4 => ?_)
          · have h := it_p h c4
            refine lv_aload_n hx hb dX9_leaves_70 rfl (lv_at hl 0 rfl) ?_
            refine lv_iload hx hb dX9_leaves_71 (lv_at hl 5 rfl) ?_
            refine lv_iload hx hb dX9_leaves_73 (lv_at hl 6 rfl) ?_
            refine lv_iadd hx hb dX9_leaves_75 ?_
            refine lv_iload hx hb dX9_leaves_76 (lv_at hl 10 rfl) ?_
            obtain ⟨hn5, h⟩ := ck_e h
            refine va_iast hx hb hK hP hD hS 0 0 rfl rfl hn5 dX9_leaves_78 (fun H locs hP hD hS => ?_)
            have hP : va_P G vwCl [(h_p0, .inl (cI, n_p0, .inl (upd vL21_0 (p5 + vL21_1).toNatClampNeg (vL21_0 (p1 + vL21_4).toNatClampNeg))))] H := hP
            have hD : va_D A [(h_p0, .inl (cI, n_p0, .inl (upd vL21_0 (p5 + vL21_1).toNatClampNeg (vL21_0 (p1 + vL21_4).toNatClampNeg))))] := hD
            refine lv_iinc (v := (vL21_1 + (1 : Int32))) (lv' := [(6, .int (vL21_1 + (1 : Int32))), (0, .ref h_p0), (1, .int p1), (2, .int p2), (3, .int p3), (4, .int p4), (5, .int p5), (7, .int vL21_2), (8, .int vL21_3), (9, .int vL21_4), (10, .int (vL21_0 (p1 + vL21_4).toNatClampNeg))]) hx hb dX9_leaves_79 hl (k := 6) rfl (by first | rfl | decide) (by decide) rfl (fun ls hl => ?_)
            refine lv_iinc (v := (vL21_4 + (1 : Int32))) (lv' := [(9, .int (vL21_4 + (1 : Int32))), (6, .int (vL21_1 + (1 : Int32))), (0, .ref h_p0), (1, .int p1), (2, .int p2), (3, .int p3), (4, .int p4), (5, .int p5), (7, .int vL21_2), (8, .int vL21_3), (10, .int (vL21_0 (p1 + vL21_4).toNatClampNeg))]) hx hb dX9_leaves_82 hl (k := 9) rfl (by first | rfl | decide) (by decide) rfl (fun ls hl => ?_)
            refine lv_goto (tgt := 21) hx hb dX9_leaves_85 (by decide) ?_
            exact ih21 (upd vL21_0 (p5 + vL21_1).toNatClampNeg (vL21_0 (p1 + vL21_4).toNatClampNeg)) (vL21_1 + (1 : Int32)) vL21_2 vL21_3 (vL21_4 + (1 : Int32)) _ _ _ hP hD hS (lv_sub hl [2, 3, 4, 5, 6, 7, 1, 8, 9, 0] rfl) h
          have h := it_n h c4
          refine lv_iload hx hb dX9_leaves_57 (lv_at hl 10 rfl) ?_
          refine lv_iload hx hb dX9_leaves_59 (lv_at hl 4 rfl) ?_
          refine lv_icmp_ne (tgt := 70) hx hb dX9_leaves_61 (by decide) (fun c6 => ?_) (fun c6 => ?_)
          · have h := it_n h c6
            refine lv_aload_n hx hb dX9_leaves_70 rfl (lv_at hl 0 rfl) ?_
            refine lv_iload hx hb dX9_leaves_71 (lv_at hl 5 rfl) ?_
            refine lv_iload hx hb dX9_leaves_73 (lv_at hl 6 rfl) ?_
            refine lv_iadd hx hb dX9_leaves_75 ?_
            refine lv_iload hx hb dX9_leaves_76 (lv_at hl 10 rfl) ?_
            obtain ⟨hn7, h⟩ := ck_e h
            refine va_iast hx hb hK hP hD hS 0 0 rfl rfl hn7 dX9_leaves_78 (fun H locs hP hD hS => ?_)
            have hP : va_P G vwCl [(h_p0, .inl (cI, n_p0, .inl (upd vL21_0 (p5 + vL21_1).toNatClampNeg (vL21_0 (p1 + vL21_4).toNatClampNeg))))] H := hP
            have hD : va_D A [(h_p0, .inl (cI, n_p0, .inl (upd vL21_0 (p5 + vL21_1).toNatClampNeg (vL21_0 (p1 + vL21_4).toNatClampNeg))))] := hD
            refine lv_iinc (v := (vL21_1 + (1 : Int32))) (lv' := [(6, .int (vL21_1 + (1 : Int32))), (0, .ref h_p0), (1, .int p1), (2, .int p2), (3, .int p3), (4, .int p4), (5, .int p5), (7, .int vL21_2), (8, .int vL21_3), (9, .int vL21_4), (10, .int (vL21_0 (p1 + vL21_4).toNatClampNeg))]) hx hb dX9_leaves_79 hl (k := 6) rfl (by first | rfl | decide) (by decide) rfl (fun ls hl => ?_)
            refine lv_iinc (v := (vL21_4 + (1 : Int32))) (lv' := [(9, .int (vL21_4 + (1 : Int32))), (6, .int (vL21_1 + (1 : Int32))), (0, .ref h_p0), (1, .int p1), (2, .int p2), (3, .int p3), (4, .int p4), (5, .int p5), (7, .int vL21_2), (8, .int vL21_3), (10, .int (vL21_0 (p1 + vL21_4).toNatClampNeg))]) hx hb dX9_leaves_82 hl (k := 9) rfl (by first | rfl | decide) (by decide) rfl (fun ls hl => ?_)
            refine lv_goto (tgt := 21) hx hb dX9_leaves_85 (by decide) ?_
            exact ih21 (upd vL21_0 (p5 + vL21_1).toNatClampNeg (vL21_0 (p1 + vL21_4).toNatClampNeg)) (vL21_1 + (1 : Int32)) vL21_2 vL21_3 (vL21_4 + (1 : Int32)) _ _ _ hP hD hS (lv_sub hl [2, 3, 4, 5, 6, 7, 1, 8, 9, 0] rfl) h
          have h := it_p h c6
          refine lv_iconst (v := (0 : Int32)) hx hb dX9_leaves_64 (by decide) ?_
          refine lv_istore (lv' := [(8, .int (0 : Int32)), (0, .ref h_p0), (1, .int p1), (2, .int p2), (3, .int p3), (4, .int p4), (5, .int p5), (6, .int vL21_1), (7, .int vL21_2), (9, .int vL21_4), (10, .int (vL21_0 (p1 + vL21_4).toNatClampNeg))]) hx hb dX9_leaves_65 hl (by decide) rfl (fun ls hl => ?_)
          refine lv_iinc (v := ((vL21_0 (p1 + vL21_4).toNatClampNeg) + (-1 : Int32))) (lv' := [(10, .int ((vL21_0 (p1 + vL21_4).toNatClampNeg) + (-1 : Int32))), (8, .int (0 : Int32)), (0, .ref h_p0), (1, .int p1), (2, .int p2), (3, .int p3), (4, .int p4), (5, .int p5), (6, .int vL21_1), (7, .int vL21_2), (9, .int vL21_4)]) hx hb dX9_leaves_67 hl (k := 10) rfl (by first | rfl | decide) (by decide) rfl (fun ls hl => ?_)
          refine lv_aload_n hx hb dX9_leaves_70 rfl (lv_at hl 2 rfl) ?_
          refine lv_iload hx hb dX9_leaves_71 (lv_at hl 7 rfl) ?_
          refine lv_iload hx hb dX9_leaves_73 (lv_at hl 8 rfl) ?_
          refine lv_iadd hx hb dX9_leaves_75 ?_
          refine lv_iload hx hb dX9_leaves_76 (lv_at hl 0 rfl) ?_
          obtain ⟨hn8, h⟩ := ck_e h
          refine va_iast hx hb hK hP hD hS 0 0 rfl rfl hn8 dX9_leaves_78 (fun H locs hP hD hS => ?_)
          have hP : va_P G vwCl [(h_p0, .inl (cI, n_p0, .inl (upd vL21_0 (p5 + vL21_1).toNatClampNeg ((vL21_0 (p1 + vL21_4).toNatClampNeg) + (-1 : Int32)))))] H := hP
          have hD : va_D A [(h_p0, .inl (cI, n_p0, .inl (upd vL21_0 (p5 + vL21_1).toNatClampNeg ((vL21_0 (p1 + vL21_4).toNatClampNeg) + (-1 : Int32)))))] := hD
          refine lv_iinc (v := (vL21_1 + (1 : Int32))) (lv' := [(6, .int (vL21_1 + (1 : Int32))), (10, .int ((vL21_0 (p1 + vL21_4).toNatClampNeg) + (-1 : Int32))), (8, .int (0 : Int32)), (0, .ref h_p0), (1, .int p1), (2, .int p2), (3, .int p3), (4, .int p4), (5, .int p5), (7, .int vL21_2), (9, .int vL21_4)]) hx hb dX9_leaves_79 hl (k := 8) rfl (by first | rfl | decide) (by decide) rfl (fun ls hl => ?_)
          refine lv_iinc (v := (vL21_4 + (1 : Int32))) (lv' := [(9, .int (vL21_4 + (1 : Int32))), (6, .int (vL21_1 + (1 : Int32))), (10, .int ((vL21_0 (p1 + vL21_4).toNatClampNeg) + (-1 : Int32))), (8, .int (0 : Int32)), (0, .ref h_p0), (1, .int p1), (2, .int p2), (3, .int p3), (4, .int p4), (5, .int p5), (7, .int vL21_2)]) hx hb dX9_leaves_82 hl (k := 10) rfl (by first | rfl | decide) (by decide) rfl (fun ls hl => ?_)
          refine lv_goto (tgt := 21) hx hb dX9_leaves_85 (by decide) ?_
          exact ih21 (upd vL21_0 (p5 + vL21_1).toNatClampNeg ((vL21_0 (p1 + vL21_4).toNatClampNeg) + (-1 : Int32))) (vL21_1 + (1 : Int32)) vL21_2 (0 : Int32) (vL21_4 + (1 : Int32)) _ _ _ hP hD hS (lv_sub hl [4, 5, 6, 7, 8, 9, 1, 10, 3, 0] rfl) h
        refine lv_if_eq (tgt := 52) hx hb dX9_leaves_37 (by decide) (fun c9 => ?_) (fun c9 => ?_)
        · have h := it_p h c9
          exact hJ_X9_leaves_52  _ _ _ hP hD hS (lv_sub hl [1, 2, 3, 4, 5, 6, 7, 8, 9, 10, 0] rfl) h
        have h := it_n h c9
        refine lv_iload hx hb dX9_leaves_40 (lv_at hl 0 rfl) ?_
        refine lv_iload_n hx hb dX9_leaves_42 rfl (lv_at hl 4 rfl) ?_
        refine lv_icmp_ne (tgt := 52) hx hb dX9_leaves_43 (by decide) (fun c10 => ?_) (fun c10 => ?_)
        · have h := it_n h c10
          exact hJ_X9_leaves_52  _ _ _ hP hD hS (lv_sub hl [1, 2, 3, 4, 5, 6, 7, 8, 9, 10, 0] rfl) h
        have h := it_p h c10
        refine lv_iconst (v := (0 : Int32)) hx hb dX9_leaves_46 (by decide) ?_
        refine lv_istore (lv' := [(7, .int (0 : Int32)), (10, .int (vL21_0 (p1 + vL21_4).toNatClampNeg)), (0, .ref h_p0), (1, .int p1), (2, .int p2), (3, .int p3), (4, .int p4), (5, .int p5), (6, .int vL21_1), (8, .int vL21_3), (9, .int vL21_4)]) hx hb dX9_leaves_47 hl (by decide) rfl (fun ls hl => ?_)
        refine lv_goto (tgt := 82) hx hb dX9_leaves_49 (by decide) ?_
        refine lv_iinc (v := (vL21_4 + (1 : Int32))) (lv' := [(9, .int (vL21_4 + (1 : Int32))), (7, .int (0 : Int32)), (10, .int (vL21_0 (p1 + vL21_4).toNatClampNeg)), (0, .ref h_p0), (1, .int p1), (2, .int p2), (3, .int p3), (4, .int p4), (5, .int p5), (6, .int vL21_1), (8, .int vL21_3)]) hx hb dX9_leaves_82 hl (k := 10) rfl (by first | rfl | decide) (by decide) rfl (fun ls hl => ?_)
        refine lv_goto (tgt := 21) hx hb dX9_leaves_85 (by decide) ?_
        exact ih21 vL21_0 vL21_1 (0 : Int32) vL21_3 (vL21_4 + (1 : Int32)) _ _ _ hP hD hS (lv_sub hl [3, 4, 5, 6, 7, 8, 9, 1, 10, 0] rfl) h
    exact hL21 FU a_p0 (0 : Int32) (1 : Int32) (0 : Int32) (0 : Int32) _ _ _ hP hD hS (lv_sub hl [4, 5, 6, 7, 8, 9, 3, 2, 1, 0] rfl) h
  have h := it_n h c1
  refine lv_iconst (v := (1 : Int32)) hx hb dX9_leaves_11 (by decide) ?_
  refine lv_goto (tgt := 16) hx hb dX9_leaves_12 (by decide) ?_
  refine lv_istore (lv' := [(8, .int (1 : Int32)), (7, .int (1 : Int32)), (6, .int (0 : Int32)), (0, .ref h_p0), (1, .int p1), (2, .int p2), (3, .int p3), (4, .int p4), (5, .int p5)]) hx hb dX9_leaves_16 hl (by decide) rfl (fun ls hl => ?_)
  refine lv_iconst (v := (0 : Int32)) hx hb dX9_leaves_18 (by decide) ?_
  refine lv_istore (lv' := [(9, .int (0 : Int32)), (8, .int (1 : Int32)), (7, .int (1 : Int32)), (6, .int (0 : Int32)), (0, .ref h_p0), (1, .int p1), (2, .int p2), (3, .int p3), (4, .int p4), (5, .int p5)]) hx hb dX9_leaves_19 hl (by decide) rfl (fun ls hl => ?_)
  have hK_X9_leaves_21_88x1 : ∀  (vK21_88_0 : Nat → Int32) (H : Heap) (locs : List Loc) (ls : Array Slot), va_P G vwCl [(h_p0, .inl (cI, n_p0, .inl vK21_88_0))] H → va_D A [(h_p0, .inl (cI, n_p0, .inl vK21_88_0))] → va_S A s.heap H locs → lv_has ls 11 [] → K_X9_leaves_21_88x1 vK21_88_0 = some w0 → W p l e (headSpec wsX9_leaves ({ frames := 0, cells := 0, slots := 0, locals := 0 })).room s m ([.ref h_p0, .int p1, .int p2, .int p3, .int p4, .int p5] : List Value).toArray below meth c H locs 0 0 (MQ below (va_Qv (fun (_ : Unit) => True) (fun _ t => va_P G vwCl [(h_p0, .inl (cI, n_p0, .inl w0))] t.heap) A) ([.ref h_p0, .int p1, .int p2, .int p3, .int p4, .int p5] : List Value).toArray s 0 0 A) (F0 m 88 ls []) := by
    intro vK21_88_0 H locs ls hP hD hS hl h
    unfold K_X9_leaves_21_88x1 at h
    have h9 := Option.some.inj h
    have e9 : vK21_88_0 = w0 := congrArg (fun z9 => z9) h9
    rw [← e9]
    exact k_vret hx hb hr hlocks hP hS dX9_leaves_88
  have hL21x1 : ∀ (n21 : Nat) (vL21_0 : Nat → Int32) (vL21_1 : Int32) (vL21_2 : Int32) (vL21_3 : Int32) (vL21_4 : Int32) (H : Heap) (locs : List Loc) (ls : Array Slot), va_P G vwCl [(h_p0, .inl (cI, n_p0, .inl vL21_0))] H → va_D A [(h_p0, .inl (cI, n_p0, .inl vL21_0))] → va_S A s.heap H locs → lv_has ls 11 [(0, .ref h_p0), (1, .int p1), (2, .int p2), (3, .int p3), (4, .int p4), (5, .int p5), (6, .int vL21_1), (7, .int vL21_2), (8, .int vL21_3), (9, .int vL21_4)] → wq5 (B_X9_leaves_21x1 n_p0 p1 p2 p3 p4 p5 K_X9_leaves_21_88x1) n21 vL21_0 vL21_1 vL21_2 vL21_3 vL21_4 = some w0 → W p l e (headSpec wsX9_leaves ({ frames := 0, cells := 0, slots := 0, locals := 0 })).room s m ([.ref h_p0, .int p1, .int p2, .int p3, .int p4, .int p5] : List Value).toArray below meth c H locs 0 0 (MQ below (va_Qv (fun (_ : Unit) => True) (fun _ t => va_P G vwCl [(h_p0, .inl (cI, n_p0, .inl w0))] t.heap) A) ([.ref h_p0, .int p1, .int p2, .int p3, .int p4, .int p5] : List Value).toArray s 0 0 A) (F0 m 21 ls []) := by
    intro n21
    induction n21 with
    | zero => intro vL21_0 vL21_1 vL21_2 vL21_3 vL21_4 H locs ls hP hD hS hl h; exact wq5_0 h
    | succ n21 ih21 =>
      intro vL21_0 vL21_1 vL21_2 vL21_3 vL21_4 H locs ls hP hD hS hl h
      have h := wq5_s h
      unfold B_X9_leaves_21x1 at h
      refine lv_iload hx hb dX9_leaves_21 (lv_at hl 9 rfl) ?_
      refine lv_iload_n hx hb dX9_leaves_23 rfl (lv_at hl 2 rfl) ?_
      refine lv_icmp_ge (tgt := 88) hx hb dX9_leaves_24 (by decide) (fun c11 => ?_) (fun c11 => ?_)
      · have h := it_p h c11
        exact hK_X9_leaves_21_88x1 vL21_0 _ _ _ hP hD hS (lv_sub hl [] rfl) h
      have h := it_n h c11
      refine lv_aload_n hx hb dX9_leaves_27 rfl (lv_at hl 0 rfl) ?_
      refine lv_iload_n hx hb dX9_leaves_28 rfl (lv_at hl 1 rfl) ?_
      refine lv_iload hx hb dX9_leaves_29 (lv_at hl 9 rfl) ?_
      refine lv_iadd hx hb dX9_leaves_31 ?_
      obtain ⟨hn12, h⟩ := ck_e h
      refine va_iald hx hb hK hP 0 0 rfl rfl hn12 dX9_leaves_32 ?_
      refine lv_istore (lv' := [(10, .int (vL21_0 (p1 + vL21_4).toNatClampNeg)), (0, .ref h_p0), (1, .int p1), (2, .int p2), (3, .int p3), (4, .int p4), (5, .int p5), (6, .int vL21_1), (7, .int vL21_2), (8, .int vL21_3), (9, .int vL21_4)]) hx hb dX9_leaves_33 hl (by decide) rfl (fun ls hl => ?_)
      refine lv_iload hx hb dX9_leaves_35 (lv_at hl 8 rfl) ?_
      have hJ_X9_leaves_52x1 : ∀ (H : Heap) (locs : List Loc) (ls : Array Slot), va_P G vwCl [(h_p0, .inl (cI, n_p0, .inl vL21_0))] H → va_D A [(h_p0, .inl (cI, n_p0, .inl vL21_0))] → va_S A s.heap H locs → lv_has ls 11 [(0, .ref h_p0), (1, .int p1), (2, .int p2), (3, .int p3), (4, .int p4), (5, .int p5), (6, .int vL21_1), (7, .int vL21_2), (8, .int vL21_3), (9, .int vL21_4), (10, .int (vL21_0 (p1 + vL21_4).toNatClampNeg))] → J_X9_leaves_52x1 n_p0 p1 p4 p5 vL21_0 vL21_1 vL21_2 vL21_3 vL21_4 (wq5 (B_X9_leaves_21x1 n_p0 p1 p2 p3 p4 p5 K_X9_leaves_21_88x1) n21) = some w0 → W p l e (headSpec wsX9_leaves ({ frames := 0, cells := 0, slots := 0, locals := 0 })).room s m ([.ref h_p0, .int p1, .int p2, .int p3, .int p4, .int p5] : List Value).toArray below meth c H locs 0 0 (MQ below (va_Qv (fun (_ : Unit) => True) (fun _ t => va_P G vwCl [(h_p0, .inl (cI, n_p0, .inl w0))] t.heap) A) ([.ref h_p0, .int p1, .int p2, .int p3, .int p4, .int p5] : List Value).toArray s 0 0 A) (F0 m 52 ls []) := by
        intro  H locs ls hP hD hS hl h
        unfold J_X9_leaves_52x1 at h
        refine lv_iload hx hb dX9_leaves_52 (lv_at hl 8 rfl) ?_
        refine lv_if_eq (tgt := 70) hx hb dX9_leaves_54 (by decide) (fun c13 => ?_) (fun c13 => ?_)
        · have h := it_p h c13
          refine lv_aload_n hx hb dX9_leaves_70 rfl (lv_at hl 0 rfl) ?_
          refine lv_iload hx hb dX9_leaves_71 (lv_at hl 5 rfl) ?_
          refine lv_iload hx hb dX9_leaves_73 (lv_at hl 6 rfl) ?_
          refine lv_iadd hx hb dX9_leaves_75 ?_
          refine lv_iload hx hb dX9_leaves_76 (lv_at hl 10 rfl) ?_
          obtain ⟨hn14, h⟩ := ck_e h
          refine va_iast hx hb hK hP hD hS 0 0 rfl rfl hn14 dX9_leaves_78 (fun H locs hP hD hS => ?_)
          have hP : va_P G vwCl [(h_p0, .inl (cI, n_p0, .inl (upd vL21_0 (p5 + vL21_1).toNatClampNeg (vL21_0 (p1 + vL21_4).toNatClampNeg))))] H := hP
          have hD : va_D A [(h_p0, .inl (cI, n_p0, .inl (upd vL21_0 (p5 + vL21_1).toNatClampNeg (vL21_0 (p1 + vL21_4).toNatClampNeg))))] := hD
          refine lv_iinc (v := (vL21_1 + (1 : Int32))) (lv' := [(6, .int (vL21_1 + (1 : Int32))), (0, .ref h_p0), (1, .int p1), (2, .int p2), (3, .int p3), (4, .int p4), (5, .int p5), (7, .int vL21_2), (8, .int vL21_3), (9, .int vL21_4), (10, .int (vL21_0 (p1 + vL21_4).toNatClampNeg))]) hx hb dX9_leaves_79 hl (k := 6) rfl (by first | rfl | decide) (by decide) rfl (fun ls hl => ?_)
          refine lv_iinc (v := (vL21_4 + (1 : Int32))) (lv' := [(9, .int (vL21_4 + (1 : Int32))), (6, .int (vL21_1 + (1 : Int32))), (0, .ref h_p0), (1, .int p1), (2, .int p2), (3, .int p3), (4, .int p4), (5, .int p5), (7, .int vL21_2), (8, .int vL21_3), (10, .int (vL21_0 (p1 + vL21_4).toNatClampNeg))]) hx hb dX9_leaves_82 hl (k := 9) rfl (by first | rfl | decide) (by decide) rfl (fun ls hl => ?_)
          refine lv_goto (tgt := 21) hx hb dX9_leaves_85 (by decide) ?_
          exact ih21 (upd vL21_0 (p5 + vL21_1).toNatClampNeg (vL21_0 (p1 + vL21_4).toNatClampNeg)) (vL21_1 + (1 : Int32)) vL21_2 vL21_3 (vL21_4 + (1 : Int32)) _ _ _ hP hD hS (lv_sub hl [2, 3, 4, 5, 6, 7, 1, 8, 9, 0] rfl) h
        have h := it_n h c13
        refine lv_iload hx hb dX9_leaves_57 (lv_at hl 10 rfl) ?_
        refine lv_iload hx hb dX9_leaves_59 (lv_at hl 4 rfl) ?_
        refine lv_icmp_ne (tgt := 70) hx hb dX9_leaves_61 (by decide) (fun c15 => ?_) (fun c15 => ?_)
        · have h := it_n h c15
          refine lv_aload_n hx hb dX9_leaves_70 rfl (lv_at hl 0 rfl) ?_
          refine lv_iload hx hb dX9_leaves_71 (lv_at hl 5 rfl) ?_
          refine lv_iload hx hb dX9_leaves_73 (lv_at hl 6 rfl) ?_
          refine lv_iadd hx hb dX9_leaves_75 ?_
          refine lv_iload hx hb dX9_leaves_76 (lv_at hl 10 rfl) ?_
          obtain ⟨hn16, h⟩ := ck_e h
          refine va_iast hx hb hK hP hD hS 0 0 rfl rfl hn16 dX9_leaves_78 (fun H locs hP hD hS => ?_)
          have hP : va_P G vwCl [(h_p0, .inl (cI, n_p0, .inl (upd vL21_0 (p5 + vL21_1).toNatClampNeg (vL21_0 (p1 + vL21_4).toNatClampNeg))))] H := hP
          have hD : va_D A [(h_p0, .inl (cI, n_p0, .inl (upd vL21_0 (p5 + vL21_1).toNatClampNeg (vL21_0 (p1 + vL21_4).toNatClampNeg))))] := hD
          refine lv_iinc (v := (vL21_1 + (1 : Int32))) (lv' := [(6, .int (vL21_1 + (1 : Int32))), (0, .ref h_p0), (1, .int p1), (2, .int p2), (3, .int p3), (4, .int p4), (5, .int p5), (7, .int vL21_2), (8, .int vL21_3), (9, .int vL21_4), (10, .int (vL21_0 (p1 + vL21_4).toNatClampNeg))]) hx hb dX9_leaves_79 hl (k := 6) rfl (by first | rfl | decide) (by decide) rfl (fun ls hl => ?_)
          refine lv_iinc (v := (vL21_4 + (1 : Int32))) (lv' := [(9, .int (vL21_4 + (1 : Int32))), (6, .int (vL21_1 + (1 : Int32))), (0, .ref h_p0), (1, .int p1), (2, .int p2), (3, .int p3), (4, .int p4), (5, .int p5), (7, .int vL21_2), (8, .int vL21_3), (10, .int (vL21_0 (p1 + vL21_4).toNatClampNeg))]) hx hb dX9_leaves_82 hl (k := 9) rfl (by first | rfl | decide) (by decide) rfl (fun ls hl => ?_)
          refine lv_goto (tgt := 21) hx hb dX9_leaves_85 (by decide) ?_
          exact ih21 (upd vL21_0 (p5 + vL21_1).toNatClampNeg (vL21_0 (p1 + vL21_4).toNatClampNeg)) (vL21_1 + (1 : Int32)) vL21_2 vL21_3 (vL21_4 + (1 : Int32)) _ _ _ hP hD hS (lv_sub hl [2, 3, 4, 5, 6, 7, 1, 8, 9, 0] rfl) h
        have h := it_p h c15
        refine lv_iconst (v := (0 : Int32)) hx hb dX9_leaves_64 (by decide) ?_
        refine lv_istore (lv' := [(8, .int (0 : Int32)), (0, .ref h_p0), (1, .int p1), (2, .int p2), (3, .int p3), (4, .int p4), (5, .int p5), (6, .int vL21_1), (7, .int vL21_2), (9, .int vL21_4), (10, .int (vL21_0 (p1 + vL21_4).toNatClampNeg))]) hx hb dX9_leaves_65 hl (by decide) rfl (fun ls hl => ?_)
        refine lv_iinc (v := ((vL21_0 (p1 + vL21_4).toNatClampNeg) + (-1 : Int32))) (lv' := [(10, .int ((vL21_0 (p1 + vL21_4).toNatClampNeg) + (-1 : Int32))), (8, .int (0 : Int32)), (0, .ref h_p0), (1, .int p1), (2, .int p2), (3, .int p3), (4, .int p4), (5, .int p5), (6, .int vL21_1), (7, .int vL21_2), (9, .int vL21_4)]) hx hb dX9_leaves_67 hl (k := 10) rfl (by first | rfl | decide) (by decide) rfl (fun ls hl => ?_)
        refine lv_aload_n hx hb dX9_leaves_70 rfl (lv_at hl 2 rfl) ?_
        refine lv_iload hx hb dX9_leaves_71 (lv_at hl 7 rfl) ?_
        refine lv_iload hx hb dX9_leaves_73 (lv_at hl 8 rfl) ?_
        refine lv_iadd hx hb dX9_leaves_75 ?_
        refine lv_iload hx hb dX9_leaves_76 (lv_at hl 0 rfl) ?_
        obtain ⟨hn17, h⟩ := ck_e h
        refine va_iast hx hb hK hP hD hS 0 0 rfl rfl hn17 dX9_leaves_78 (fun H locs hP hD hS => ?_)
        have hP : va_P G vwCl [(h_p0, .inl (cI, n_p0, .inl (upd vL21_0 (p5 + vL21_1).toNatClampNeg ((vL21_0 (p1 + vL21_4).toNatClampNeg) + (-1 : Int32)))))] H := hP
        have hD : va_D A [(h_p0, .inl (cI, n_p0, .inl (upd vL21_0 (p5 + vL21_1).toNatClampNeg ((vL21_0 (p1 + vL21_4).toNatClampNeg) + (-1 : Int32)))))] := hD
        refine lv_iinc (v := (vL21_1 + (1 : Int32))) (lv' := [(6, .int (vL21_1 + (1 : Int32))), (10, .int ((vL21_0 (p1 + vL21_4).toNatClampNeg) + (-1 : Int32))), (8, .int (0 : Int32)), (0, .ref h_p0), (1, .int p1), (2, .int p2), (3, .int p3), (4, .int p4), (5, .int p5), (7, .int vL21_2), (9, .int vL21_4)]) hx hb dX9_leaves_79 hl (k := 8) rfl (by first | rfl | decide) (by decide) rfl (fun ls hl => ?_)
        refine lv_iinc (v := (vL21_4 + (1 : Int32))) (lv' := [(9, .int (vL21_4 + (1 : Int32))), (6, .int (vL21_1 + (1 : Int32))), (10, .int ((vL21_0 (p1 + vL21_4).toNatClampNeg) + (-1 : Int32))), (8, .int (0 : Int32)), (0, .ref h_p0), (1, .int p1), (2, .int p2), (3, .int p3), (4, .int p4), (5, .int p5), (7, .int vL21_2)]) hx hb dX9_leaves_82 hl (k := 10) rfl (by first | rfl | decide) (by decide) rfl (fun ls hl => ?_)
        refine lv_goto (tgt := 21) hx hb dX9_leaves_85 (by decide) ?_
        exact ih21 (upd vL21_0 (p5 + vL21_1).toNatClampNeg ((vL21_0 (p1 + vL21_4).toNatClampNeg) + (-1 : Int32))) (vL21_1 + (1 : Int32)) vL21_2 (0 : Int32) (vL21_4 + (1 : Int32)) _ _ _ hP hD hS (lv_sub hl [4, 5, 6, 7, 8, 9, 1, 10, 3, 0] rfl) h
      refine lv_if_eq (tgt := 52) hx hb dX9_leaves_37 (by decide) (fun c18 => ?_) (fun c18 => ?_)
      · have h := it_p h c18
        exact hJ_X9_leaves_52x1  _ _ _ hP hD hS (lv_sub hl [1, 2, 3, 4, 5, 6, 7, 8, 9, 10, 0] rfl) h
      have h := it_n h c18
      refine lv_iload hx hb dX9_leaves_40 (lv_at hl 0 rfl) ?_
      refine lv_iload_n hx hb dX9_leaves_42 rfl (lv_at hl 4 rfl) ?_
      refine lv_icmp_ne (tgt := 52) hx hb dX9_leaves_43 (by decide) (fun c19 => ?_) (fun c19 => ?_)
      · have h := it_n h c19
        exact hJ_X9_leaves_52x1  _ _ _ hP hD hS (lv_sub hl [1, 2, 3, 4, 5, 6, 7, 8, 9, 10, 0] rfl) h
      have h := it_p h c19
      refine lv_iconst (v := (0 : Int32)) hx hb dX9_leaves_46 (by decide) ?_
      refine lv_istore (lv' := [(7, .int (0 : Int32)), (10, .int (vL21_0 (p1 + vL21_4).toNatClampNeg)), (0, .ref h_p0), (1, .int p1), (2, .int p2), (3, .int p3), (4, .int p4), (5, .int p5), (6, .int vL21_1), (8, .int vL21_3), (9, .int vL21_4)]) hx hb dX9_leaves_47 hl (by decide) rfl (fun ls hl => ?_)
      refine lv_goto (tgt := 82) hx hb dX9_leaves_49 (by decide) ?_
      refine lv_iinc (v := (vL21_4 + (1 : Int32))) (lv' := [(9, .int (vL21_4 + (1 : Int32))), (7, .int (0 : Int32)), (10, .int (vL21_0 (p1 + vL21_4).toNatClampNeg)), (0, .ref h_p0), (1, .int p1), (2, .int p2), (3, .int p3), (4, .int p4), (5, .int p5), (6, .int vL21_1), (8, .int vL21_3)]) hx hb dX9_leaves_82 hl (k := 10) rfl (by first | rfl | decide) (by decide) rfl (fun ls hl => ?_)
      refine lv_goto (tgt := 21) hx hb dX9_leaves_85 (by decide) ?_
      exact ih21 vL21_0 vL21_1 (0 : Int32) vL21_3 (vL21_4 + (1 : Int32)) _ _ _ hP hD hS (lv_sub hl [3, 4, 5, 6, 7, 8, 9, 1, 10, 0] rfl) h
  exact hL21x1 FU a_p0 (0 : Int32) (1 : Int32) (1 : Int32) (0 : Int32) _ _ _ hP hD hS (lv_sub hl [4, 5, 6, 7, 8, 9, 3, 2, 1, 0] rfl) h

/-! X9_numberAt -/
set_option maxHeartbeats 4000000 in
set_option maxRecDepth 100000 in
theorem c_X9_numberAt (l : Launch) : ∀ (d : Nat) (G : va_G) (cI cJ cD cH : ClassId) (sz : Nat) (h_t : Nat) (h_t_rows : Nat) (h_t_powers : Nat) (h_t_tree : Nat) (h_t_ahead : Nat) (h_t_behind : Nat) (h_t_before : Nat) (h_t_met : Nat) (h_t_metSizes : Nat) (h_t_chosen : Nat) (h_t_tape : Nat) (h_t_toldPowers : Nat) (h_t_powerPlaces : Nat) (h_t_toldTree : Nat) (h_t_splitPlaces : Nat) (h_t_layers : Nat) (h_t_paper : Nat) (h_t_held : Nat) (h_t_numbers : Nat) (h_t_sizes : Nat) (h_t_heldLeaves : Nat) (h_t_items : Nat) (h_t_kept : Nat) (t_genus : Int32) (t_marks : Int32) (t_leaves : Int32) (t_splits : Int32) (t_done : Int32) (t_undone : Int32) (t_metMany : Int32) (t_treesSeen : Int32) (t_taped : Int32) (t_place : Int32) (t_isWrong : Int32) (t_toldGenus : Int32) (t_toldMarks : Int32) (t_isTree : Int32) (t_toldLeaves : Int32) (t_leavesPlace : Int32) (t_toldSplits : Int32) (t_isWhy : Int32) (t_papered : Int32) (t_isKept : Int32) (a_t_rows : Nat → Int32) (p0 : Int32) (p1 : Int32) (p2 : Int32) (r0 : Int64) (w0 : Nat → Int32) (hF : F_X9_numberAt d a_t_rows p0 p1 p2 = some (r0, w0)), Met l yX9_numberAt wsX9_numberAt ({ frames := d + 2, cells := 0, slots := 0, locals := 30 * d + 48 }) (k_pre G (k_T cI cJ cD cH) [(h_t, .inr (8, [.int t_genus, .int t_marks, .ref h_t_powers, .int t_leaves, .int t_splits, .ref h_t_tree, .ref h_t_ahead, .ref h_t_behind, .ref h_t_before, .int t_done, .int t_undone, .ref h_t_rows, .ref h_t_met, .ref h_t_metSizes, .int t_metMany, .int t_treesSeen, .ref h_t_chosen, .ref h_t_tape, .int t_taped, .int t_place, .int t_isWrong, .int t_toldGenus, .int t_toldMarks, .ref h_t_toldPowers, .ref h_t_powerPlaces, .int t_isTree, .int t_toldLeaves, .int t_leavesPlace, .int t_toldSplits, .ref h_t_toldTree, .ref h_t_splitPlaces, .ref h_t_layers, .int t_isWhy, .ref h_t_paper, .int t_papered, .ref h_t_held, .ref h_t_numbers, .ref h_t_sizes, .ref h_t_heldLeaves, .ref h_t_items, .ref h_t_kept, .int t_isKept])), (h_t_rows, .inl (cI, 480, .inl a_t_rows))] sz [.ref h_t, .int p0, .int p1, .int p2]) (va_Ql (fun r (_ : Unit) => r = r0 ∧ True) (fun _ t => va_P G vwCl [(h_t, .inr (8, [.int t_genus, .int t_marks, .ref h_t_powers, .int t_leaves, .int t_splits, .ref h_t_tree, .ref h_t_ahead, .ref h_t_behind, .ref h_t_before, .int t_done, .int t_undone, .ref h_t_rows, .ref h_t_met, .ref h_t_metSizes, .int t_metMany, .int t_treesSeen, .ref h_t_chosen, .ref h_t_tape, .int t_taped, .int t_place, .int t_isWrong, .int t_toldGenus, .int t_toldMarks, .ref h_t_toldPowers, .ref h_t_powerPlaces, .int t_isTree, .int t_toldLeaves, .int t_leavesPlace, .int t_toldSplits, .ref h_t_toldTree, .ref h_t_splitPlaces, .ref h_t_layers, .int t_isWhy, .ref h_t_paper, .int t_papered, .ref h_t_held, .ref h_t_numbers, .ref h_t_sizes, .ref h_t_heldLeaves, .ref h_t_items, .ref h_t_kept, .int t_isKept])), (h_t_rows, .inl (cI, 480, .inl w0))] t.heap) (va_A [(h_t, .inr (8, [.int t_genus, .int t_marks, .ref h_t_powers, .int t_leaves, .int t_splits, .ref h_t_tree, .ref h_t_ahead, .ref h_t_behind, .ref h_t_before, .int t_done, .int t_undone, .ref h_t_rows, .ref h_t_met, .ref h_t_metSizes, .int t_metMany, .int t_treesSeen, .ref h_t_chosen, .ref h_t_tape, .int t_taped, .int t_place, .int t_isWrong, .int t_toldGenus, .int t_toldMarks, .ref h_t_toldPowers, .ref h_t_powerPlaces, .int t_isTree, .int t_toldLeaves, .int t_leavesPlace, .int t_toldSplits, .ref h_t_toldTree, .ref h_t_splitPlaces, .ref h_t_layers, .int t_isWhy, .ref h_t_paper, .int t_papered, .ref h_t_held, .ref h_t_numbers, .ref h_t_sizes, .ref h_t_heldLeaves, .ref h_t_items, .ref h_t_kept, .int t_isKept])), (h_t_rows, .inl (cI, 480, .inl a_t_rows))] sz)) 0 0 (va_A [(h_t, .inr (8, [.int t_genus, .int t_marks, .ref h_t_powers, .int t_leaves, .int t_splits, .ref h_t_tree, .ref h_t_ahead, .ref h_t_behind, .ref h_t_before, .int t_done, .int t_undone, .ref h_t_rows, .ref h_t_met, .ref h_t_metSizes, .int t_metMany, .int t_treesSeen, .ref h_t_chosen, .ref h_t_tape, .int t_taped, .int t_place, .int t_isWrong, .int t_toldGenus, .int t_toldMarks, .ref h_t_toldPowers, .ref h_t_powerPlaces, .int t_isTree, .int t_toldLeaves, .int t_leavesPlace, .int t_toldSplits, .ref h_t_toldTree, .ref h_t_splitPlaces, .ref h_t_layers, .int t_isWhy, .ref h_t_paper, .int t_papered, .ref h_t_held, .ref h_t_numbers, .ref h_t_sizes, .ref h_t_heldLeaves, .ref h_t_items, .ref h_t_kept, .int t_isKept])), (h_t_rows, .inl (cI, 480, .inl a_t_rows))] sz) := by
  intro d
  induction d with
  | zero => intro G cI cJ cD cH sz h_t h_t_rows h_t_powers h_t_tree h_t_ahead h_t_behind h_t_before h_t_met h_t_metSizes h_t_chosen h_t_tape h_t_toldPowers h_t_powerPlaces h_t_toldTree h_t_splitPlaces h_t_layers h_t_paper h_t_held h_t_numbers h_t_sizes h_t_heldLeaves h_t_items h_t_kept t_genus t_marks t_leaves t_splits t_done t_undone t_metMany t_treesSeen t_taped t_place t_isWrong t_toldGenus t_toldMarks t_isTree t_toldLeaves t_leavesPlace t_toldSplits t_isWhy t_papered t_isKept a_t_rows p0 p1 p2 r0 w0 hF; cases hF
  | succ d ihd =>
    intro G cI cJ cD cH sz h_t h_t_rows h_t_powers h_t_tree h_t_ahead h_t_behind h_t_before h_t_met h_t_metSizes h_t_chosen h_t_tape h_t_toldPowers h_t_powerPlaces h_t_toldTree h_t_splitPlaces h_t_layers h_t_paper h_t_held h_t_numbers h_t_sizes h_t_heldLeaves h_t_items h_t_kept t_genus t_marks t_leaves t_splits t_done t_undone t_metMany t_treesSeen t_taped t_place t_isWrong t_toldGenus t_toldMarks t_isTree t_toldLeaves t_leavesPlace t_toldSplits t_isWhy t_papered t_isKept a_t_rows p0 p1 p2 r0 w0 hF
    refine Met.ofW (cc := cX9_numberAt) (maxL := 11) (ret := (some .long)) (by decide) rfl ?_
    intro p e s m args below meth c s₁ B hml hv
    obtain ⟨rfl, hsz, hP, hK, hD0⟩ := hv
    have hx := B.exec
    have hb := B.bytes
    have hr := B.returns
    have hts := atoms_spec (ws := wsX9_numberAt) B.pre
    have hta : ∀ w ∈ wA, w.before ([.ref h_t, .int p0, .int p1, .int p2] : List Value).toArray s = true := hta_of hts
    have hown : s.vm.findClass RX9 = some m.cls := findClass_of_methodNamed B.named
    have hlocks := B.notSynchronized
    subst hsz
    have hD := hD0.self (sz := s.heap.size)
    generalize hAe : va_A [(h_t, .inr (8, [.int t_genus, .int t_marks, .ref h_t_powers, .int t_leaves, .int t_splits, .ref h_t_tree, .ref h_t_ahead, .ref h_t_behind, .ref h_t_before, .int t_done, .int t_undone, .ref h_t_rows, .ref h_t_met, .ref h_t_metSizes, .int t_metMany, .int t_treesSeen, .ref h_t_chosen, .ref h_t_tape, .int t_taped, .int t_place, .int t_isWrong, .int t_toldGenus, .int t_toldMarks, .ref h_t_toldPowers, .ref h_t_powerPlaces, .int t_isTree, .int t_toldLeaves, .int t_leavesPlace, .int t_toldSplits, .ref h_t_toldTree, .ref h_t_splitPlaces, .ref h_t_layers, .int t_isWhy, .ref h_t_paper, .int t_papered, .ref h_t_held, .ref h_t_numbers, .ref h_t_sizes, .ref h_t_heldLeaves, .ref h_t_items, .ref h_t_kept, .int t_isKept])), (h_t_rows, .inl (cI, 480, .inl a_t_rows))] s.heap.size = A at hD ⊢
    have hA : ∀ q : Nat, s.heap.size ≤ q → A q := fun q h => by rw [← hAe]; exact Or.inr h
    have hS : va_S A s.heap s.heap [] := va_S.rf
    have hl := lv_entry ([.ref h_t, .int p0, .int p1, .int p2]) (n := 11) (Nat.le_of_ble_eq_true rfl)
    rw [lg_entry_eq]
    generalize (lg_sl ([.ref h_t, .int p0, .int p1, .int p2]) ++ List.replicate (11 - (lg_sl ([.ref h_t, .int p0, .int p1, .int p2])).length) Slot.unset).toArray = ls at hl ⊢
    have hl : lv_has ls 11 [(0, .ref h_t), (1, .int p0), (2, .int p1), (3, .int p2)] := hl
    have hinX9 : ∀ w ∈ wsX90, w ∈ wsX9_numberAt := hin_of in_X9
    have h : G_X9_numberAt (F_X9_numberAt d) a_t_rows p0 p1 p2 = some (r0, w0) := hF
    unfold G_X9_numberAt at h
    refine lv_iload_n hx hb dX9_numberAt_0 rfl (lv_at hl 2 rfl) ?_
    refine lv_bipush (v := (12 : Int32)) hx hb dX9_numberAt_1 (by decide) ?_
    refine lv_imul hx hb dX9_numberAt_3 ?_
    refine lv_istore (lv' := [(4, .int (p1 * (12 : Int32))), (0, .ref h_t), (1, .int p0), (2, .int p1), (3, .int p2)]) hx hb dX9_numberAt_4 hl (by decide) rfl (fun ls hl => ?_)
    refine lv_iload_n hx hb dX9_numberAt_6 rfl (lv_at hl 2 rfl) ?_
    refine lv_aload_n hx hb dX9_numberAt_7 rfl (lv_at hl 1 rfl) ?_
    refine va_get (D := G) (ci := 8) (v := .ref h_t_rows) (C := RX9) (T := TX9) (N := 42) hx hb hts hinX9 hown hK hP 0 rfl rfl 11 (by decide) (hta _ mw_614) (fun _ h9 => h9) rfl dX9_numberAt_8 ?_
    refine lv_iload hx hb dX9_numberAt_11 (lv_at hl 0 rfl) ?_
    refine lv_iload_n hx hb dX9_numberAt_13 rfl (lv_at hl 4 rfl) ?_
    obtain ⟨x1, hx1, h⟩ := bd_e h
    try dsimp only at h
    refine k_SlU (n := 4) (As := [.int p0, .ref h_t_rows, .int (p1 * (12 : Int32)), .int p2]) (rest := []) hx hb hml hown hts (c_X9_base l G cI cJ cD cH s.heap.size h_t_rows 480 a_t_rows p0 (p1 * (12 : Int32)) p2 x1 hx1) gX9_numberAt_X9_base rfl rfl rfl (by decide +kernel) ⟨by first | exact Nat.le_of_ble_eq_true rfl | (simp only [headSpec]; omega), by first | exact Nat.le_of_ble_eq_true rfl | (simp only [headSpec]; omega)⟩ hK hP hD hS hA [1] (by decide) rfl rfl rfl hl.1 (Nat.le_of_ble_eq_true rfl) dX9_numberAt_14 ⟨Nat.zero_le _, Nat.zero_le _⟩ (fun hp1 H locs hP hS => ?_)
    refine lv_lstore (lv' := [(5, .long x1), (4, .int (p1 * (12 : Int32))), (0, .ref h_t), (1, .int p0), (2, .int p1), (3, .int p2)]) hx hb dX9_numberAt_17 hl (by decide) rfl (fun ls hl => ?_)
    refine lv_lload hx hb dX9_numberAt_19 (lv_at hl 0 rfl) ?_
    refine lv_lconst (v := (0 : Int64)) hx hb dX9_numberAt_21 (by decide) ?_
    refine W.lcmp hx hb dX9_numberAt_22 ?_
    refine lv_if_lt (tgt := 29) hx hb dX9_numberAt_23 (by decide) (fun c2 => ?_) (fun c2 => ?_)
    rotate_left
    · have h := it_n h c2
      refine lv_lload hx hb dX9_numberAt_26 (lv_at hl 0 rfl) ?_
      have h9 := Option.some.inj h
      have e9 : x1 = r0 := congrArg (fun z9 => z9.1) h9
      rw [← e9]
      have e9 : a_t_rows = w0 := congrArg (fun z9 => z9.2) h9
      rw [← e9]
      exact k_lret hx hb hr hlocks hP hS rfl dX9_numberAt_28
    have h := it_p h c2
    refine lv_aload_n hx hb dX9_numberAt_29 rfl (lv_at hl 2 rfl) ?_
    refine va_get (D := G) (ci := 8) (v := .ref h_t_rows) (C := RX9) (T := TX9) (N := 42) hx hb hts hinX9 hown hK hP 0 rfl rfl 11 (by decide) (hta _ mw_614) (fun _ h9 => h9) rfl dX9_numberAt_30 ?_
    refine lv_iload hx hb dX9_numberAt_33 (lv_at hl 1 rfl) ?_
    refine lv_iload_n hx hb dX9_numberAt_35 rfl (lv_at hl 5 rfl) ?_
    refine lv_iconst (v := (0 : Int32)) hx hb dX9_numberAt_36 (by decide) ?_
    obtain ⟨x3, hx3, h⟩ := bd_e h
    try dsimp only at h
    refine k_SiU (n := 4) (As := [.ref h_t_rows, .int (p1 * (12 : Int32)), .int p2, .int (0 : Int32)]) (rest := []) hx hb hml hown hts (c_X9_often l G cI cJ cD cH H.size h_t_rows 480 a_t_rows (p1 * (12 : Int32)) p2 (0 : Int32) x3 hx3) gX9_numberAt_X9_often rfl rfl rfl (by decide +kernel) ⟨by first | exact Nat.le_of_ble_eq_true rfl | (simp only [headSpec]; omega), by first | exact Nat.le_of_ble_eq_true rfl | (simp only [headSpec]; omega)⟩ hK hP hD hS hA [1] (by decide) rfl rfl rfl hl.1 (Nat.le_of_ble_eq_true rfl) dX9_numberAt_37 ⟨Nat.zero_le _, Nat.zero_le _⟩ (fun hp3 H locs hP hS => ?_)
    refine lv_if_ne (tgt := 88) hx hb dX9_numberAt_40 (by decide) (fun c4 => ?_) (fun c4 => ?_)
    rotate_left
    · have h := it_p h c4
      refine lv_aload_n hx hb dX9_numberAt_43 rfl (lv_at hl 2 rfl) ?_
      refine va_get (D := G) (ci := 8) (v := .ref h_t_rows) (C := RX9) (T := TX9) (N := 42) hx hb hts hinX9 hown hK hP 0 rfl rfl 11 (by decide) (hta _ mw_614) (fun _ h9 => h9) rfl dX9_numberAt_44 ?_
      refine lv_iload hx hb dX9_numberAt_47 (lv_at hl 1 rfl) ?_
      refine lv_iload_n hx hb dX9_numberAt_49 rfl (lv_at hl 5 rfl) ?_
      refine lv_iconst (v := (1 : Int32)) hx hb dX9_numberAt_50 (by decide) ?_
      refine lv_iconst (v := (0 : Int32)) hx hb dX9_numberAt_51 (by decide) ?_
      refine lv_iload hx hb dX9_numberAt_52 (lv_at hl 1 rfl) ?_
      refine lv_bipush (v := (12 : Int32)) hx hb dX9_numberAt_54 (by decide) ?_
      refine lv_iadd hx hb dX9_numberAt_56 ?_
      obtain ⟨x10, hx10, h⟩ := bd_e h
      try dsimp only at h
      refine k_SvM (n := 6) (As := [.ref h_t_rows, .int (p1 * (12 : Int32)), .int p2, .int (1 : Int32), .int (0 : Int32), .int ((p1 * (12 : Int32)) + (12 : Int32))]) (rest := []) hx hb hml hown hts (c_X9_leaves l G cI cJ cD cH H.size h_t_rows 480 a_t_rows (p1 * (12 : Int32)) p2 (1 : Int32) (0 : Int32) ((p1 * (12 : Int32)) + (12 : Int32)) x10 hx10) gX9_numberAt_X9_leaves rfl rfl rfl (by decide +kernel) ⟨by first | exact Nat.le_of_ble_eq_true rfl | (simp only [headSpec]; omega), by first | exact Nat.le_of_ble_eq_true rfl | (simp only [headSpec]; omega)⟩ hK hP hD hS hA [1] (by decide) rfl rfl rfl rfl hl.1 (Nat.le_of_ble_eq_true rfl) dX9_numberAt_57 ⟨Nat.zero_le _, Nat.zero_le _⟩ [(h_t, .inr (8, [.int t_genus, .int t_marks, .ref h_t_powers, .int t_leaves, .int t_splits, .ref h_t_tree, .ref h_t_ahead, .ref h_t_behind, .ref h_t_before, .int t_done, .int t_undone, .ref h_t_rows, .ref h_t_met, .ref h_t_metSizes, .int t_metMany, .int t_treesSeen, .ref h_t_chosen, .ref h_t_tape, .int t_taped, .int t_place, .int t_isWrong, .int t_toldGenus, .int t_toldMarks, .ref h_t_toldPowers, .ref h_t_powerPlaces, .int t_isTree, .int t_toldLeaves, .int t_leavesPlace, .int t_toldSplits, .ref h_t_toldTree, .ref h_t_splitPlaces, .ref h_t_layers, .int t_isWhy, .ref h_t_paper, .int t_papered, .ref h_t_held, .ref h_t_numbers, .ref h_t_sizes, .ref h_t_heldLeaves, .ref h_t_items, .ref h_t_kept, .int t_isKept])), (h_t_rows, .inl (cI, 480, .inl x10))] [0, 1] 1 (by decide +kernel) rfl rfl rfl (fun hp10 H locs hP hD hS => ?_)
      refine lv_ldc2 (v := (2 : Int64)) hx hb hown (hta _ mw_660) dX9_numberAt_60 ?_
      refine lv_iload_n hx hb dX9_numberAt_63 rfl (lv_at hl 3 rfl) ?_
      refine lv_i2l (v := p0.toInt64) hx hb dX9_numberAt_64 (by first | rfl | decide) ?_
      refine lv_lmul hx hb dX9_numberAt_65 ?_
      refine lv_ldc2 (v := (2 : Int64)) hx hb hown (hta _ mw_660) dX9_numberAt_66 ?_
      refine lv_lsub hx hb dX9_numberAt_69 ?_
      refine lv_iload_n hx hb dX9_numberAt_70 rfl (lv_at hl 5 rfl) ?_
      refine lv_i2l (v := p2.toInt64) hx hb dX9_numberAt_71 (by first | rfl | decide) ?_
      refine lv_ladd hx hb dX9_numberAt_72 ?_
      refine lv_lconst (v := (1 : Int64)) hx hb dX9_numberAt_73 (by decide) ?_
      refine lv_lsub hx hb dX9_numberAt_74 ?_
      refine lv_aload_n hx hb dX9_numberAt_75 rfl (lv_at hl 2 rfl) ?_
      refine lv_iload_n hx hb dX9_numberAt_76 rfl (lv_at hl 3 rfl) ?_
      refine lv_iload_n hx hb dX9_numberAt_77 rfl (lv_at hl 4 rfl) ?_
      refine lv_iconst (v := (1 : Int32)) hx hb dX9_numberAt_78 (by decide) ?_
      refine lv_iadd hx hb dX9_numberAt_79 ?_
      refine lv_iload_n hx hb dX9_numberAt_80 rfl (lv_at hl 5 rfl) ?_
      refine lv_iconst (v := (1 : Int32)) hx hb dX9_numberAt_81 (by decide) ?_
      refine lv_isub hx hb dX9_numberAt_82 ?_
      obtain ⟨x11, hx11, h⟩ := bd_e h
      try dsimp only at h
      refine k_VlM (n := 3) (As := [.int p0, .int (p1 + (1 : Int32)), .int (p2 - (1 : Int32))]) (rest := [.long (((((2 : Int64) * p0.toInt64) - (2 : Int64)) + p2.toInt64) - (1 : Int64))]) hx hb hml hown hts (ihd G cI cJ cD cH H.size h_t h_t_rows h_t_powers h_t_tree h_t_ahead h_t_behind h_t_before h_t_met h_t_metSizes h_t_chosen h_t_tape h_t_toldPowers h_t_powerPlaces h_t_toldTree h_t_splitPlaces h_t_layers h_t_paper h_t_held h_t_numbers h_t_sizes h_t_heldLeaves h_t_items h_t_kept t_genus t_marks t_leaves t_splits t_done t_undone t_metMany t_treesSeen t_taped t_place t_isWrong t_toldGenus t_toldMarks t_isTree t_toldLeaves t_leavesPlace t_toldSplits t_isWhy t_papered t_isKept x10 p0 (p1 + (1 : Int32)) (p2 - (1 : Int32)) (x11.1) (x11.2) hx11) gX9_numberAt_X9_numberAt rfl rfl rfl (by decide +kernel) ⟨by first | exact Nat.le_of_ble_eq_true rfl | (simp only [headSpec]; omega), by first | exact Nat.le_of_ble_eq_true rfl | (simp only [headSpec]; omega)⟩ hK hP hD hS hA [0, 1] (by decide) rfl rfl (ci := 8) rfl rfl rfl rfl rfl hl.1 (Nat.le_of_ble_eq_true rfl) dX9_numberAt_83 ⟨Nat.zero_le _, Nat.zero_le _⟩ [(h_t, .inr (8, [.int t_genus, .int t_marks, .ref h_t_powers, .int t_leaves, .int t_splits, .ref h_t_tree, .ref h_t_ahead, .ref h_t_behind, .ref h_t_before, .int t_done, .int t_undone, .ref h_t_rows, .ref h_t_met, .ref h_t_metSizes, .int t_metMany, .int t_treesSeen, .ref h_t_chosen, .ref h_t_tape, .int t_taped, .int t_place, .int t_isWrong, .int t_toldGenus, .int t_toldMarks, .ref h_t_toldPowers, .ref h_t_powerPlaces, .int t_isTree, .int t_toldLeaves, .int t_leavesPlace, .int t_toldSplits, .ref h_t_toldTree, .ref h_t_splitPlaces, .ref h_t_layers, .int t_isWhy, .ref h_t_paper, .int t_papered, .ref h_t_held, .ref h_t_numbers, .ref h_t_sizes, .ref h_t_heldLeaves, .ref h_t_items, .ref h_t_kept, .int t_isKept])), (h_t_rows, .inl (cI, 480, .inl (x11.2)))] [1, 2] 2 (by decide +kernel) rfl rfl rfl (fun hp11 H locs hP hD hS => ?_)
      refine lv_lmul hx hb dX9_numberAt_86 ?_
      have h9 := Option.some.inj h
      have e9 : ((((((2 : Int64) * p0.toInt64) - (2 : Int64)) + p2.toInt64) - (1 : Int64)) * (x11.1)) = r0 := congrArg (fun z9 => z9.1) h9
      rw [← e9]
      have e9 : (x11.2) = w0 := congrArg (fun z9 => z9.2) h9
      rw [← e9]
      exact k_lret hx hb hr hlocks hP hS rfl dX9_numberAt_87
    have h := it_n h c4
    refine lv_lconst (v := (0 : Int64)) hx hb dX9_numberAt_88 (by decide) ?_
    refine lv_lstore (lv' := [(7, .long (0 : Int64)), (5, .long x1), (4, .int (p1 * (12 : Int32))), (0, .ref h_t), (1, .int p0), (2, .int p1), (3, .int p2)]) hx hb dX9_numberAt_89 hl (by decide) rfl (fun ls hl => ?_)
    refine lv_iconst (v := (1 : Int32)) hx hb dX9_numberAt_91 (by decide) ?_
    refine lv_istore (lv' := [(9, .int (1 : Int32)), (7, .long (0 : Int64)), (5, .long x1), (4, .int (p1 * (12 : Int32))), (0, .ref h_t), (1, .int p0), (2, .int p1), (3, .int p2)]) hx hb dX9_numberAt_92 hl (by decide) rfl (fun ls hl => ?_)
    have hK_X9_numberAt_94_167 : ∀  (vK94_167_0 : Nat → Int32) (vK94_167_1 : Int64) (H : Heap) (locs : List Loc) (ls : Array Slot), va_P G vwCl [(h_t, .inr (8, [.int t_genus, .int t_marks, .ref h_t_powers, .int t_leaves, .int t_splits, .ref h_t_tree, .ref h_t_ahead, .ref h_t_behind, .ref h_t_before, .int t_done, .int t_undone, .ref h_t_rows, .ref h_t_met, .ref h_t_metSizes, .int t_metMany, .int t_treesSeen, .ref h_t_chosen, .ref h_t_tape, .int t_taped, .int t_place, .int t_isWrong, .int t_toldGenus, .int t_toldMarks, .ref h_t_toldPowers, .ref h_t_powerPlaces, .int t_isTree, .int t_toldLeaves, .int t_leavesPlace, .int t_toldSplits, .ref h_t_toldTree, .ref h_t_splitPlaces, .ref h_t_layers, .int t_isWhy, .ref h_t_paper, .int t_papered, .ref h_t_held, .ref h_t_numbers, .ref h_t_sizes, .ref h_t_heldLeaves, .ref h_t_items, .ref h_t_kept, .int t_isKept])), (h_t_rows, .inl (cI, 480, .inl vK94_167_0))] H → va_D A [(h_t, .inr (8, [.int t_genus, .int t_marks, .ref h_t_powers, .int t_leaves, .int t_splits, .ref h_t_tree, .ref h_t_ahead, .ref h_t_behind, .ref h_t_before, .int t_done, .int t_undone, .ref h_t_rows, .ref h_t_met, .ref h_t_metSizes, .int t_metMany, .int t_treesSeen, .ref h_t_chosen, .ref h_t_tape, .int t_taped, .int t_place, .int t_isWrong, .int t_toldGenus, .int t_toldMarks, .ref h_t_toldPowers, .ref h_t_powerPlaces, .int t_isTree, .int t_toldLeaves, .int t_leavesPlace, .int t_toldSplits, .ref h_t_toldTree, .ref h_t_splitPlaces, .ref h_t_layers, .int t_isWhy, .ref h_t_paper, .int t_papered, .ref h_t_held, .ref h_t_numbers, .ref h_t_sizes, .ref h_t_heldLeaves, .ref h_t_items, .ref h_t_kept, .int t_isKept])), (h_t_rows, .inl (cI, 480, .inl vK94_167_0))] → va_S A s.heap H locs → lv_has ls 11 [(7, .long vK94_167_1)] → K_X9_numberAt_94_167 vK94_167_0 vK94_167_1 = some (r0, w0) → W p l e (headSpec wsX9_numberAt ({ frames := (d + 1) + 2, cells := 0, slots := 0, locals := 30 * (d + 1) + 48 })).room s m ([.ref h_t, .int p0, .int p1, .int p2] : List Value).toArray below meth c H locs 0 0 (MQ below (va_Ql (fun r (_ : Unit) => r = r0 ∧ True) (fun _ t => va_P G vwCl [(h_t, .inr (8, [.int t_genus, .int t_marks, .ref h_t_powers, .int t_leaves, .int t_splits, .ref h_t_tree, .ref h_t_ahead, .ref h_t_behind, .ref h_t_before, .int t_done, .int t_undone, .ref h_t_rows, .ref h_t_met, .ref h_t_metSizes, .int t_metMany, .int t_treesSeen, .ref h_t_chosen, .ref h_t_tape, .int t_taped, .int t_place, .int t_isWrong, .int t_toldGenus, .int t_toldMarks, .ref h_t_toldPowers, .ref h_t_powerPlaces, .int t_isTree, .int t_toldLeaves, .int t_leavesPlace, .int t_toldSplits, .ref h_t_toldTree, .ref h_t_splitPlaces, .ref h_t_layers, .int t_isWhy, .ref h_t_paper, .int t_papered, .ref h_t_held, .ref h_t_numbers, .ref h_t_sizes, .ref h_t_heldLeaves, .ref h_t_items, .ref h_t_kept, .int t_isKept])), (h_t_rows, .inl (cI, 480, .inl w0))] t.heap) A) ([.ref h_t, .int p0, .int p1, .int p2] : List Value).toArray s 0 0 A) (F0 m 167 ls []) := by
      intro vK94_167_0 vK94_167_1 H locs ls hP hD hS hl h
      unfold K_X9_numberAt_94_167 at h
      refine lv_lload hx hb dX9_numberAt_167 (lv_at hl 0 rfl) ?_
      have h9 := Option.some.inj h
      have e9 : vK94_167_1 = r0 := congrArg (fun z9 => z9.1) h9
      rw [← e9]
      have e9 : vK94_167_0 = w0 := congrArg (fun z9 => z9.2) h9
      rw [← e9]
      exact k_lret hx hb hr hlocks hP hS rfl dX9_numberAt_169
    have hL94 : ∀ (n94 : Nat) (vL94_0 : Nat → Int32) (vL94_1 : Int64) (vL94_2 : Int32) (H : Heap) (locs : List Loc) (ls : Array Slot), va_P G vwCl [(h_t, .inr (8, [.int t_genus, .int t_marks, .ref h_t_powers, .int t_leaves, .int t_splits, .ref h_t_tree, .ref h_t_ahead, .ref h_t_behind, .ref h_t_before, .int t_done, .int t_undone, .ref h_t_rows, .ref h_t_met, .ref h_t_metSizes, .int t_metMany, .int t_treesSeen, .ref h_t_chosen, .ref h_t_tape, .int t_taped, .int t_place, .int t_isWrong, .int t_toldGenus, .int t_toldMarks, .ref h_t_toldPowers, .ref h_t_powerPlaces, .int t_isTree, .int t_toldLeaves, .int t_leavesPlace, .int t_toldSplits, .ref h_t_toldTree, .ref h_t_splitPlaces, .ref h_t_layers, .int t_isWhy, .ref h_t_paper, .int t_papered, .ref h_t_held, .ref h_t_numbers, .ref h_t_sizes, .ref h_t_heldLeaves, .ref h_t_items, .ref h_t_kept, .int t_isKept])), (h_t_rows, .inl (cI, 480, .inl vL94_0))] H → va_D A [(h_t, .inr (8, [.int t_genus, .int t_marks, .ref h_t_powers, .int t_leaves, .int t_splits, .ref h_t_tree, .ref h_t_ahead, .ref h_t_behind, .ref h_t_before, .int t_done, .int t_undone, .ref h_t_rows, .ref h_t_met, .ref h_t_metSizes, .int t_metMany, .int t_treesSeen, .ref h_t_chosen, .ref h_t_tape, .int t_taped, .int t_place, .int t_isWrong, .int t_toldGenus, .int t_toldMarks, .ref h_t_toldPowers, .ref h_t_powerPlaces, .int t_isTree, .int t_toldLeaves, .int t_leavesPlace, .int t_toldSplits, .ref h_t_toldTree, .ref h_t_splitPlaces, .ref h_t_layers, .int t_isWhy, .ref h_t_paper, .int t_papered, .ref h_t_held, .ref h_t_numbers, .ref h_t_sizes, .ref h_t_heldLeaves, .ref h_t_items, .ref h_t_kept, .int t_isKept])), (h_t_rows, .inl (cI, 480, .inl vL94_0))] → va_S A s.heap H locs → lv_has ls 11 [(0, .ref h_t), (1, .int p0), (2, .int p1), (3, .int p2), (4, .int (p1 * (12 : Int32))), (7, .long vL94_1), (9, .int vL94_2)] → wq3 (B_X9_numberAt_94 (F_X9_numberAt d) p0 p1 p2 K_X9_numberAt_94_167) n94 vL94_0 vL94_1 vL94_2 = some (r0, w0) → W p l e (headSpec wsX9_numberAt ({ frames := (d + 1) + 2, cells := 0, slots := 0, locals := 30 * (d + 1) + 48 })).room s m ([.ref h_t, .int p0, .int p1, .int p2] : List Value).toArray below meth c H locs 0 0 (MQ below (va_Ql (fun r (_ : Unit) => r = r0 ∧ True) (fun _ t => va_P G vwCl [(h_t, .inr (8, [.int t_genus, .int t_marks, .ref h_t_powers, .int t_leaves, .int t_splits, .ref h_t_tree, .ref h_t_ahead, .ref h_t_behind, .ref h_t_before, .int t_done, .int t_undone, .ref h_t_rows, .ref h_t_met, .ref h_t_metSizes, .int t_metMany, .int t_treesSeen, .ref h_t_chosen, .ref h_t_tape, .int t_taped, .int t_place, .int t_isWrong, .int t_toldGenus, .int t_toldMarks, .ref h_t_toldPowers, .ref h_t_powerPlaces, .int t_isTree, .int t_toldLeaves, .int t_leavesPlace, .int t_toldSplits, .ref h_t_toldTree, .ref h_t_splitPlaces, .ref h_t_layers, .int t_isWhy, .ref h_t_paper, .int t_papered, .ref h_t_held, .ref h_t_numbers, .ref h_t_sizes, .ref h_t_heldLeaves, .ref h_t_items, .ref h_t_kept, .int t_isKept])), (h_t_rows, .inl (cI, 480, .inl w0))] t.heap) A) ([.ref h_t, .int p0, .int p1, .int p2] : List Value).toArray s 0 0 A) (F0 m 94 ls []) := by
      intro n94
      induction n94 with
      | zero => intro vL94_0 vL94_1 vL94_2 H locs ls hP hD hS hl h; exact wq3_0 h
      | succ n94 ih94 =>
        intro vL94_0 vL94_1 vL94_2 H locs ls hP hD hS hl h
        have h := wq3_s h
        unfold B_X9_numberAt_94 at h
        refine lv_iload hx hb dX9_numberAt_94 (lv_at hl 6 rfl) ?_
        refine lv_bipush (v := (40 : Int32)) hx hb dX9_numberAt_96 (by decide) ?_
        refine lv_icmp_gt (tgt := 167) hx hb dX9_numberAt_98 (by decide) (fun c5 => ?_) (fun c5 => ?_)
        · have h := it_p h c5
          exact hK_X9_numberAt_94_167 vL94_0 vL94_1 _ _ _ hP hD hS (lv_sub hl [5] rfl) h
        have h := it_n h c5
        refine lv_aload_n hx hb dX9_numberAt_101 rfl (lv_at hl 0 rfl) ?_
        refine va_get (D := G) (ci := 8) (v := .ref h_t_rows) (C := RX9) (T := TX9) (N := 42) hx hb hts hinX9 hown hK hP 0 rfl rfl 11 (by decide) (hta _ mw_614) (fun _ h9 => h9) rfl dX9_numberAt_102 ?_
        refine lv_iload hx hb dX9_numberAt_105 (lv_at hl 4 rfl) ?_
        refine lv_iload_n hx hb dX9_numberAt_107 rfl (lv_at hl 3 rfl) ?_
        refine lv_iload hx hb dX9_numberAt_108 (lv_at hl 6 rfl) ?_
        obtain ⟨x6, hx6, h⟩ := bd_e h
        try dsimp only at h
        refine k_SiU (n := 4) (As := [.ref h_t_rows, .int (p1 * (12 : Int32)), .int p2, .int vL94_2]) (rest := []) hx hb hml hown hts (c_X9_often l G cI cJ cD cH H.size h_t_rows 480 vL94_0 (p1 * (12 : Int32)) p2 vL94_2 x6 hx6) gX9_numberAt_X9_often rfl rfl rfl (by decide +kernel) ⟨by first | exact Nat.le_of_ble_eq_true rfl | (simp only [headSpec]; omega), by first | exact Nat.le_of_ble_eq_true rfl | (simp only [headSpec]; omega)⟩ hK hP hD hS hA [1] (by decide) rfl rfl rfl hl.1 (Nat.le_of_ble_eq_true rfl) dX9_numberAt_110 ⟨Nat.zero_le _, Nat.zero_le _⟩ (fun hp6 H locs hP hS => ?_)
        refine lv_istore (lv' := [(10, .int x6), (0, .ref h_t), (1, .int p0), (2, .int p1), (3, .int p2), (4, .int (p1 * (12 : Int32))), (7, .long vL94_1), (9, .int vL94_2)]) hx hb dX9_numberAt_113 hl (by decide) rfl (fun ls hl => ?_)
        refine lv_iload hx hb dX9_numberAt_115 (lv_at hl 0 rfl) ?_
        refine lv_if_ne (tgt := 123) hx hb dX9_numberAt_117 (by decide) (fun c7 => ?_) (fun c7 => ?_)
        rotate_left
        · have h := it_p h c7
          refine lv_goto (tgt := 161) hx hb dX9_numberAt_120 (by decide) ?_
          refine lv_iinc (v := (vL94_2 + (1 : Int32))) (lv' := [(9, .int (vL94_2 + (1 : Int32))), (10, .int x6), (0, .ref h_t), (1, .int p0), (2, .int p1), (3, .int p2), (4, .int (p1 * (12 : Int32))), (7, .long vL94_1)]) hx hb dX9_numberAt_161 hl (k := 7) rfl (by first | rfl | decide) (by decide) rfl (fun ls hl => ?_)
          refine lv_goto (tgt := 94) hx hb dX9_numberAt_164 (by decide) ?_
          exact ih94 vL94_0 vL94_1 (vL94_2 + (1 : Int32)) _ _ _ hP hD hS (lv_sub hl [2, 3, 4, 5, 6, 7, 0] rfl) h
        have h := it_n h c7
        refine lv_aload_n hx hb dX9_numberAt_123 rfl (lv_at hl 1 rfl) ?_
        refine va_get (D := G) (ci := 8) (v := .ref h_t_rows) (C := RX9) (T := TX9) (N := 42) hx hb hts hinX9 hown hK hP 0 rfl rfl 11 (by decide) (hta _ mw_614) (fun _ h9 => h9) rfl dX9_numberAt_124 ?_
        refine lv_iload hx hb dX9_numberAt_127 (lv_at hl 5 rfl) ?_
        refine lv_iload_n hx hb dX9_numberAt_129 rfl (lv_at hl 4 rfl) ?_
        refine lv_iconst (v := (0 : Int32)) hx hb dX9_numberAt_130 (by decide) ?_
        refine lv_iload hx hb dX9_numberAt_131 (lv_at hl 7 rfl) ?_
        refine lv_iload hx hb dX9_numberAt_133 (lv_at hl 5 rfl) ?_
        refine lv_bipush (v := (12 : Int32)) hx hb dX9_numberAt_135 (by decide) ?_
        refine lv_iadd hx hb dX9_numberAt_137 ?_
        obtain ⟨x8, hx8, h⟩ := bd_e h
        try dsimp only at h
        refine k_SvM (n := 6) (As := [.ref h_t_rows, .int (p1 * (12 : Int32)), .int p2, .int (0 : Int32), .int vL94_2, .int ((p1 * (12 : Int32)) + (12 : Int32))]) (rest := []) hx hb hml hown hts (c_X9_leaves l G cI cJ cD cH H.size h_t_rows 480 vL94_0 (p1 * (12 : Int32)) p2 (0 : Int32) vL94_2 ((p1 * (12 : Int32)) + (12 : Int32)) x8 hx8) gX9_numberAt_X9_leaves rfl rfl rfl (by decide +kernel) ⟨by first | exact Nat.le_of_ble_eq_true rfl | (simp only [headSpec]; omega), by first | exact Nat.le_of_ble_eq_true rfl | (simp only [headSpec]; omega)⟩ hK hP hD hS hA [1] (by decide) rfl rfl rfl rfl hl.1 (Nat.le_of_ble_eq_true rfl) dX9_numberAt_138 ⟨Nat.zero_le _, Nat.zero_le _⟩ [(h_t, .inr (8, [.int t_genus, .int t_marks, .ref h_t_powers, .int t_leaves, .int t_splits, .ref h_t_tree, .ref h_t_ahead, .ref h_t_behind, .ref h_t_before, .int t_done, .int t_undone, .ref h_t_rows, .ref h_t_met, .ref h_t_metSizes, .int t_metMany, .int t_treesSeen, .ref h_t_chosen, .ref h_t_tape, .int t_taped, .int t_place, .int t_isWrong, .int t_toldGenus, .int t_toldMarks, .ref h_t_toldPowers, .ref h_t_powerPlaces, .int t_isTree, .int t_toldLeaves, .int t_leavesPlace, .int t_toldSplits, .ref h_t_toldTree, .ref h_t_splitPlaces, .ref h_t_layers, .int t_isWhy, .ref h_t_paper, .int t_papered, .ref h_t_held, .ref h_t_numbers, .ref h_t_sizes, .ref h_t_heldLeaves, .ref h_t_items, .ref h_t_kept, .int t_isKept])), (h_t_rows, .inl (cI, 480, .inl x8))] [0, 1] 1 (by decide +kernel) rfl rfl rfl (fun hp8 H locs hP hD hS => ?_)
        refine lv_lload hx hb dX9_numberAt_141 (lv_at hl 6 rfl) ?_
        refine lv_iload hx hb dX9_numberAt_143 (lv_at hl 0 rfl) ?_
        refine lv_i2l (v := x6.toInt64) hx hb dX9_numberAt_145 (by first | rfl | decide) ?_
        refine lv_aload_n hx hb dX9_numberAt_146 rfl (lv_at hl 1 rfl) ?_
        refine lv_iload_n hx hb dX9_numberAt_147 rfl (lv_at hl 2 rfl) ?_
        refine lv_iload_n hx hb dX9_numberAt_148 rfl (lv_at hl 3 rfl) ?_
        refine lv_iconst (v := (1 : Int32)) hx hb dX9_numberAt_149 (by decide) ?_
        refine lv_iadd hx hb dX9_numberAt_150 ?_
        refine lv_iload_n hx hb dX9_numberAt_151 rfl (lv_at hl 4 rfl) ?_
        refine lv_iconst (v := (1 : Int32)) hx hb dX9_numberAt_152 (by decide) ?_
        refine lv_isub hx hb dX9_numberAt_153 ?_
        obtain ⟨x9, hx9, h⟩ := bd_e h
        try dsimp only at h
        refine k_VlM (n := 3) (As := [.int p0, .int (p1 + (1 : Int32)), .int (p2 - (1 : Int32))]) (rest := [.long x6.toInt64, .long vL94_1]) hx hb hml hown hts (ihd G cI cJ cD cH H.size h_t h_t_rows h_t_powers h_t_tree h_t_ahead h_t_behind h_t_before h_t_met h_t_metSizes h_t_chosen h_t_tape h_t_toldPowers h_t_powerPlaces h_t_toldTree h_t_splitPlaces h_t_layers h_t_paper h_t_held h_t_numbers h_t_sizes h_t_heldLeaves h_t_items h_t_kept t_genus t_marks t_leaves t_splits t_done t_undone t_metMany t_treesSeen t_taped t_place t_isWrong t_toldGenus t_toldMarks t_isTree t_toldLeaves t_leavesPlace t_toldSplits t_isWhy t_papered t_isKept x8 p0 (p1 + (1 : Int32)) (p2 - (1 : Int32)) (x9.1) (x9.2) hx9) gX9_numberAt_X9_numberAt rfl rfl rfl (by decide +kernel) ⟨by first | exact Nat.le_of_ble_eq_true rfl | (simp only [headSpec]; omega), by first | exact Nat.le_of_ble_eq_true rfl | (simp only [headSpec]; omega)⟩ hK hP hD hS hA [0, 1] (by decide) rfl rfl (ci := 8) rfl rfl rfl rfl rfl hl.1 (Nat.le_of_ble_eq_true rfl) dX9_numberAt_154 ⟨Nat.zero_le _, Nat.zero_le _⟩ [(h_t, .inr (8, [.int t_genus, .int t_marks, .ref h_t_powers, .int t_leaves, .int t_splits, .ref h_t_tree, .ref h_t_ahead, .ref h_t_behind, .ref h_t_before, .int t_done, .int t_undone, .ref h_t_rows, .ref h_t_met, .ref h_t_metSizes, .int t_metMany, .int t_treesSeen, .ref h_t_chosen, .ref h_t_tape, .int t_taped, .int t_place, .int t_isWrong, .int t_toldGenus, .int t_toldMarks, .ref h_t_toldPowers, .ref h_t_powerPlaces, .int t_isTree, .int t_toldLeaves, .int t_leavesPlace, .int t_toldSplits, .ref h_t_toldTree, .ref h_t_splitPlaces, .ref h_t_layers, .int t_isWhy, .ref h_t_paper, .int t_papered, .ref h_t_held, .ref h_t_numbers, .ref h_t_sizes, .ref h_t_heldLeaves, .ref h_t_items, .ref h_t_kept, .int t_isKept])), (h_t_rows, .inl (cI, 480, .inl (x9.2)))] [1, 2] 2 (by decide +kernel) rfl rfl rfl (fun hp9 H locs hP hD hS => ?_)
        refine lv_lmul hx hb dX9_numberAt_157 ?_
        refine lv_ladd hx hb dX9_numberAt_158 ?_
        refine lv_lstore (lv' := [(7, .long (vL94_1 + (x6.toInt64 * (x9.1)))), (10, .int x6), (0, .ref h_t), (1, .int p0), (2, .int p1), (3, .int p2), (4, .int (p1 * (12 : Int32))), (9, .int vL94_2)]) hx hb dX9_numberAt_159 hl (by decide) rfl (fun ls hl => ?_)
        refine lv_iinc (v := (vL94_2 + (1 : Int32))) (lv' := [(9, .int (vL94_2 + (1 : Int32))), (7, .long (vL94_1 + (x6.toInt64 * (x9.1)))), (10, .int x6), (0, .ref h_t), (1, .int p0), (2, .int p1), (3, .int p2), (4, .int (p1 * (12 : Int32)))]) hx hb dX9_numberAt_161 hl (k := 7) rfl (by first | rfl | decide) (by decide) rfl (fun ls hl => ?_)
        refine lv_goto (tgt := 94) hx hb dX9_numberAt_164 (by decide) ?_
        exact ih94 (x9.2) (vL94_1 + (x6.toInt64 * (x9.1))) (vL94_2 + (1 : Int32)) _ _ _ hP hD hS (lv_sub hl [3, 4, 5, 6, 7, 1, 0] rfl) h
    exact hL94 FU a_t_rows (0 : Int64) (1 : Int32) _ _ _ hP hD hS (lv_sub hl [4, 5, 6, 7, 3, 1, 0] rfl) h

/-! X9_numberOf -/
set_option maxHeartbeats 4000000 in
set_option maxRecDepth 100000 in
theorem c_X9_numberOf (l : Launch) (G : va_G) (cI cJ cD cH : ClassId) (sz : Nat) (h_t : Nat) (h_t_rows : Nat) (h_t_powers : Nat) (h_t_tree : Nat) (h_t_ahead : Nat) (h_t_behind : Nat) (h_t_before : Nat) (h_t_met : Nat) (h_t_metSizes : Nat) (h_t_chosen : Nat) (h_t_tape : Nat) (h_t_toldPowers : Nat) (h_t_powerPlaces : Nat) (h_t_toldTree : Nat) (h_t_splitPlaces : Nat) (h_t_layers : Nat) (h_t_paper : Nat) (h_t_held : Nat) (h_t_numbers : Nat) (h_t_sizes : Nat) (h_t_heldLeaves : Nat) (h_t_items : Nat) (h_t_kept : Nat) (t_genus : Int32) (t_marks : Int32) (t_leaves : Int32) (t_splits : Int32) (t_done : Int32) (t_undone : Int32) (t_metMany : Int32) (t_treesSeen : Int32) (t_taped : Int32) (t_place : Int32) (t_isWrong : Int32) (t_toldGenus : Int32) (t_toldMarks : Int32) (t_isTree : Int32) (t_toldLeaves : Int32) (t_leavesPlace : Int32) (t_toldSplits : Int32) (t_isWhy : Int32) (t_papered : Int32) (t_isKept : Int32) (a_t_rows : Nat → Int32) (p0 : Int32) (p1 : Int32) (r0 : Int64) (w0 : Nat → Int32) (hF : F_X9_numberOf a_t_rows p0 p1 = some (r0, w0)) : Met l yX9_numberOf wsX9_numberOf ({ frames := 19, cells := 0, slots := 0, locals := 558 }) (k_pre G (k_T cI cJ cD cH) [(h_t, .inr (8, [.int t_genus, .int t_marks, .ref h_t_powers, .int t_leaves, .int t_splits, .ref h_t_tree, .ref h_t_ahead, .ref h_t_behind, .ref h_t_before, .int t_done, .int t_undone, .ref h_t_rows, .ref h_t_met, .ref h_t_metSizes, .int t_metMany, .int t_treesSeen, .ref h_t_chosen, .ref h_t_tape, .int t_taped, .int t_place, .int t_isWrong, .int t_toldGenus, .int t_toldMarks, .ref h_t_toldPowers, .ref h_t_powerPlaces, .int t_isTree, .int t_toldLeaves, .int t_leavesPlace, .int t_toldSplits, .ref h_t_toldTree, .ref h_t_splitPlaces, .ref h_t_layers, .int t_isWhy, .ref h_t_paper, .int t_papered, .ref h_t_held, .ref h_t_numbers, .ref h_t_sizes, .ref h_t_heldLeaves, .ref h_t_items, .ref h_t_kept, .int t_isKept])), (h_t_rows, .inl (cI, 480, .inl a_t_rows))] sz [.ref h_t, .int p0, .int p1]) (va_Ql (fun r (_ : Unit) => r = r0 ∧ True) (fun _ t => va_P G vwCl [(h_t, .inr (8, [.int t_genus, .int t_marks, .ref h_t_powers, .int t_leaves, .int t_splits, .ref h_t_tree, .ref h_t_ahead, .ref h_t_behind, .ref h_t_before, .int t_done, .int t_undone, .ref h_t_rows, .ref h_t_met, .ref h_t_metSizes, .int t_metMany, .int t_treesSeen, .ref h_t_chosen, .ref h_t_tape, .int t_taped, .int t_place, .int t_isWrong, .int t_toldGenus, .int t_toldMarks, .ref h_t_toldPowers, .ref h_t_powerPlaces, .int t_isTree, .int t_toldLeaves, .int t_leavesPlace, .int t_toldSplits, .ref h_t_toldTree, .ref h_t_splitPlaces, .ref h_t_layers, .int t_isWhy, .ref h_t_paper, .int t_papered, .ref h_t_held, .ref h_t_numbers, .ref h_t_sizes, .ref h_t_heldLeaves, .ref h_t_items, .ref h_t_kept, .int t_isKept])), (h_t_rows, .inl (cI, 480, .inl w0))] t.heap) (va_A [(h_t, .inr (8, [.int t_genus, .int t_marks, .ref h_t_powers, .int t_leaves, .int t_splits, .ref h_t_tree, .ref h_t_ahead, .ref h_t_behind, .ref h_t_before, .int t_done, .int t_undone, .ref h_t_rows, .ref h_t_met, .ref h_t_metSizes, .int t_metMany, .int t_treesSeen, .ref h_t_chosen, .ref h_t_tape, .int t_taped, .int t_place, .int t_isWrong, .int t_toldGenus, .int t_toldMarks, .ref h_t_toldPowers, .ref h_t_powerPlaces, .int t_isTree, .int t_toldLeaves, .int t_leavesPlace, .int t_toldSplits, .ref h_t_toldTree, .ref h_t_splitPlaces, .ref h_t_layers, .int t_isWhy, .ref h_t_paper, .int t_papered, .ref h_t_held, .ref h_t_numbers, .ref h_t_sizes, .ref h_t_heldLeaves, .ref h_t_items, .ref h_t_kept, .int t_isKept])), (h_t_rows, .inl (cI, 480, .inl a_t_rows))] sz)) 0 0 (va_A [(h_t, .inr (8, [.int t_genus, .int t_marks, .ref h_t_powers, .int t_leaves, .int t_splits, .ref h_t_tree, .ref h_t_ahead, .ref h_t_behind, .ref h_t_before, .int t_done, .int t_undone, .ref h_t_rows, .ref h_t_met, .ref h_t_metSizes, .int t_metMany, .int t_treesSeen, .ref h_t_chosen, .ref h_t_tape, .int t_taped, .int t_place, .int t_isWrong, .int t_toldGenus, .int t_toldMarks, .ref h_t_toldPowers, .ref h_t_powerPlaces, .int t_isTree, .int t_toldLeaves, .int t_leavesPlace, .int t_toldSplits, .ref h_t_toldTree, .ref h_t_splitPlaces, .ref h_t_layers, .int t_isWhy, .ref h_t_paper, .int t_papered, .ref h_t_held, .ref h_t_numbers, .ref h_t_sizes, .ref h_t_heldLeaves, .ref h_t_items, .ref h_t_kept, .int t_isKept])), (h_t_rows, .inl (cI, 480, .inl a_t_rows))] sz) := by
  refine Met.ofW (cc := cX9_numberOf) (maxL := 3) (ret := (some .long)) (by decide) rfl ?_
  intro p e s m args below meth c s₁ B hml hv
  obtain ⟨rfl, hsz, hP, hK, hD0⟩ := hv
  have hx := B.exec
  have hb := B.bytes
  have hr := B.returns
  have hts := atoms_spec (ws := wsX9_numberOf) B.pre
  have hta : ∀ w ∈ wA, w.before ([.ref h_t, .int p0, .int p1] : List Value).toArray s = true := hta_of hts
  have hown : s.vm.findClass RX9 = some m.cls := findClass_of_methodNamed B.named
  have hlocks := B.notSynchronized
  subst hsz
  have hD := hD0.self (sz := s.heap.size)
  generalize hAe : va_A [(h_t, .inr (8, [.int t_genus, .int t_marks, .ref h_t_powers, .int t_leaves, .int t_splits, .ref h_t_tree, .ref h_t_ahead, .ref h_t_behind, .ref h_t_before, .int t_done, .int t_undone, .ref h_t_rows, .ref h_t_met, .ref h_t_metSizes, .int t_metMany, .int t_treesSeen, .ref h_t_chosen, .ref h_t_tape, .int t_taped, .int t_place, .int t_isWrong, .int t_toldGenus, .int t_toldMarks, .ref h_t_toldPowers, .ref h_t_powerPlaces, .int t_isTree, .int t_toldLeaves, .int t_leavesPlace, .int t_toldSplits, .ref h_t_toldTree, .ref h_t_splitPlaces, .ref h_t_layers, .int t_isWhy, .ref h_t_paper, .int t_papered, .ref h_t_held, .ref h_t_numbers, .ref h_t_sizes, .ref h_t_heldLeaves, .ref h_t_items, .ref h_t_kept, .int t_isKept])), (h_t_rows, .inl (cI, 480, .inl a_t_rows))] s.heap.size = A at hD ⊢
  have hA : ∀ q : Nat, s.heap.size ≤ q → A q := fun q h => by rw [← hAe]; exact Or.inr h
  have hS : va_S A s.heap s.heap [] := va_S.rf
  have hl := lv_entry ([.ref h_t, .int p0, .int p1]) (n := 3) (Nat.le_of_ble_eq_true rfl)
  rw [lg_entry_eq]
  generalize (lg_sl ([.ref h_t, .int p0, .int p1]) ++ List.replicate (3 - (lg_sl ([.ref h_t, .int p0, .int p1])).length) Slot.unset).toArray = ls at hl ⊢
  have hl : lv_has ls 3 [(0, .ref h_t), (1, .int p0), (2, .int p1)] := hl
  have hinX9 : ∀ w ∈ wsX90, w ∈ wsX9_numberOf := hin_of in_X9
  have h := hF
  unfold F_X9_numberOf at h
  refine lv_iload_n hx hb dX9_numberOf_0 rfl (lv_at hl 1 rfl) ?_
  refine lv_aload_n hx hb dX9_numberOf_1 rfl (lv_at hl 0 rfl) ?_
  refine va_get (D := G) (ci := 8) (v := .ref h_t_rows) (C := RX9) (T := TX9) (N := 42) hx hb hts hinX9 hown hK hP 0 rfl rfl 11 (by decide) (hta _ mw_614) (fun _ h9 => h9) rfl dX9_numberOf_2 ?_
  refine lv_iconst (v := (0 : Int32)) hx hb dX9_numberOf_5 (by decide) ?_
  refine lv_iload_n hx hb dX9_numberOf_6 rfl (lv_at hl 2 rfl) ?_
  obtain ⟨x1, hx1, h⟩ := bd_e h
  try dsimp only at h
  refine k_SiU (n := 4) (As := [.int p0, .ref h_t_rows, .int (0 : Int32), .int p1]) (rest := []) hx hb hml hown hts (c_X9_isNothing l G cI cJ cD cH s.heap.size h_t_rows 480 a_t_rows p0 (0 : Int32) p1 x1 hx1) gX9_numberOf_X9_isNothing rfl rfl rfl (by decide +kernel) ⟨by first | exact Nat.le_of_ble_eq_true rfl | (simp only [headSpec]; omega), by first | exact Nat.le_of_ble_eq_true rfl | (simp only [headSpec]; omega)⟩ hK hP hD hS hA [1] (by decide) rfl rfl rfl hl.1 (Nat.le_of_ble_eq_true rfl) dX9_numberOf_7 ⟨Nat.zero_le _, Nat.zero_le _⟩ (fun hp1 H locs hP hS => ?_)
  refine lv_if_eq (tgt := 17) hx hb dX9_numberOf_10 (by decide) (fun c2 => ?_) (fun c2 => ?_)
  rotate_left
  · have h := it_n h c2
    refine lv_lconst (v := (0 : Int64)) hx hb dX9_numberOf_13 (by decide) ?_
    refine lv_goto (tgt := 24) hx hb dX9_numberOf_14 (by decide) ?_
    have h9 := Option.some.inj h
    have e9 : (0 : Int64) = r0 := congrArg (fun z9 => z9.1) h9
    rw [← e9]
    have e9 : a_t_rows = w0 := congrArg (fun z9 => z9.2) h9
    rw [← e9]
    exact k_lret hx hb hr hlocks hP hS rfl dX9_numberOf_24
  have h := it_p h c2
  refine lv_aload_n hx hb dX9_numberOf_17 rfl (lv_at hl 0 rfl) ?_
  refine lv_iload_n hx hb dX9_numberOf_18 rfl (lv_at hl 1 rfl) ?_
  refine lv_iconst (v := (0 : Int32)) hx hb dX9_numberOf_19 (by decide) ?_
  refine lv_iload_n hx hb dX9_numberOf_20 rfl (lv_at hl 2 rfl) ?_
  obtain ⟨x3, hx3, h⟩ := bd_e h
  try dsimp only at h
  refine k_VlM (n := 3) (As := [.int p0, .int (0 : Int32), .int p1]) (rest := []) hx hb hml hown hts (c_X9_numberAt l 16 G cI cJ cD cH H.size h_t h_t_rows h_t_powers h_t_tree h_t_ahead h_t_behind h_t_before h_t_met h_t_metSizes h_t_chosen h_t_tape h_t_toldPowers h_t_powerPlaces h_t_toldTree h_t_splitPlaces h_t_layers h_t_paper h_t_held h_t_numbers h_t_sizes h_t_heldLeaves h_t_items h_t_kept t_genus t_marks t_leaves t_splits t_done t_undone t_metMany t_treesSeen t_taped t_place t_isWrong t_toldGenus t_toldMarks t_isTree t_toldLeaves t_leavesPlace t_toldSplits t_isWhy t_papered t_isKept a_t_rows p0 (0 : Int32) p1 (x3.1) (x3.2) hx3) gX9_numberOf_X9_numberAt rfl rfl rfl (by decide +kernel) ⟨by first | exact Nat.le_of_ble_eq_true rfl | (simp only [headSpec]; omega), by first | exact Nat.le_of_ble_eq_true rfl | (simp only [headSpec]; omega)⟩ hK hP hD hS hA [0, 1] (by decide) rfl rfl (ci := 8) rfl rfl rfl rfl rfl hl.1 (Nat.le_of_ble_eq_true rfl) dX9_numberOf_21 ⟨Nat.zero_le _, Nat.zero_le _⟩ [(h_t, .inr (8, [.int t_genus, .int t_marks, .ref h_t_powers, .int t_leaves, .int t_splits, .ref h_t_tree, .ref h_t_ahead, .ref h_t_behind, .ref h_t_before, .int t_done, .int t_undone, .ref h_t_rows, .ref h_t_met, .ref h_t_metSizes, .int t_metMany, .int t_treesSeen, .ref h_t_chosen, .ref h_t_tape, .int t_taped, .int t_place, .int t_isWrong, .int t_toldGenus, .int t_toldMarks, .ref h_t_toldPowers, .ref h_t_powerPlaces, .int t_isTree, .int t_toldLeaves, .int t_leavesPlace, .int t_toldSplits, .ref h_t_toldTree, .ref h_t_splitPlaces, .ref h_t_layers, .int t_isWhy, .ref h_t_paper, .int t_papered, .ref h_t_held, .ref h_t_numbers, .ref h_t_sizes, .ref h_t_heldLeaves, .ref h_t_items, .ref h_t_kept, .int t_isKept])), (h_t_rows, .inl (cI, 480, .inl (x3.2)))] [1, 2] 2 (by decide +kernel) rfl rfl rfl (fun hp3 H locs hP hD hS => ?_)
  have h9 := Option.some.inj h
  have e9 : (x3.1) = r0 := congrArg (fun z9 => z9.1) h9
  rw [← e9]
  have e9 : (x3.2) = w0 := congrArg (fun z9 => z9.2) h9
  rw [← e9]
  exact k_lret hx hb hr hlocks hP hS rfl dX9_numberOf_24

/-! X9_numberOfMarks -/
set_option maxHeartbeats 4000000 in
set_option maxRecDepth 100000 in
theorem tK_X9_numberOfMarks_2_28 {l : Launch} {G : va_G} {cI cJ cD cH : ClassId} {h_t : Nat} {h_t_rows : Nat} {h_t_powers : Nat} {h_t_tree : Nat} {h_t_ahead : Nat} {h_t_behind : Nat} {h_t_before : Nat} {h_t_met : Nat} {h_t_metSizes : Nat} {h_t_chosen : Nat} {h_t_tape : Nat} {h_t_toldPowers : Nat} {h_t_powerPlaces : Nat} {h_t_toldTree : Nat} {h_t_splitPlaces : Nat} {h_t_layers : Nat} {h_t_paper : Nat} {h_t_held : Nat} {h_t_numbers : Nat} {h_t_sizes : Nat} {h_t_heldLeaves : Nat} {h_t_items : Nat} {h_t_kept : Nat} {t_genus : Int32} {t_marks : Int32} {t_leaves : Int32} {t_splits : Int32} {t_done : Int32} {t_undone : Int32} {t_metMany : Int32} {t_treesSeen : Int32} {t_taped : Int32} {t_place : Int32} {t_isWrong : Int32} {t_toldGenus : Int32} {t_toldMarks : Int32} {t_isTree : Int32} {t_toldLeaves : Int32} {t_leavesPlace : Int32} {t_toldSplits : Int32} {t_isWhy : Int32} {t_papered : Int32} {t_isKept : Int32} {a_t_powers : Nat → Int32} {r0 : Int64} {w0 : Nat → Int32} {p : Program} {e : Env} {s : State} {m : MethodId} {below : List Frame} {meth : Method} {c : Code} {A : Nat → Prop} (hx : p.tables.exec = Jvm.exec) (hb : c.code = cX9_numberOfMarks) (hr : meth.sig.returnType = (some .long)) (hml : c.maxLocals = 2) (hts : ∀ w ∈ wsX9_numberOfMarks, w.before ([.ref h_t] : List Value).toArray s = true) (hown : s.vm.findClass RX9 = some m.cls) (hlocks : meth.locks = false) (hK : va_K G vwCl (k_T cI cJ cD cH) s) (hA : ∀ q : Nat, s.heap.size ≤ q → A q) : ∀  (vK2_28_0 : Nat → Int32) (H : Heap) (locs : List Loc) (ls : Array Slot), va_P G vwCl [(h_t, .inr (8, [.int t_genus, .int t_marks, .ref h_t_powers, .int t_leaves, .int t_splits, .ref h_t_tree, .ref h_t_ahead, .ref h_t_behind, .ref h_t_before, .int t_done, .int t_undone, .ref h_t_rows, .ref h_t_met, .ref h_t_metSizes, .int t_metMany, .int t_treesSeen, .ref h_t_chosen, .ref h_t_tape, .int t_taped, .int t_place, .int t_isWrong, .int t_toldGenus, .int t_toldMarks, .ref h_t_toldPowers, .ref h_t_powerPlaces, .int t_isTree, .int t_toldLeaves, .int t_leavesPlace, .int t_toldSplits, .ref h_t_toldTree, .ref h_t_splitPlaces, .ref h_t_layers, .int t_isWhy, .ref h_t_paper, .int t_papered, .ref h_t_held, .ref h_t_numbers, .ref h_t_sizes, .ref h_t_heldLeaves, .ref h_t_items, .ref h_t_kept, .int t_isKept])), (h_t_rows, .inl (cI, 480, .inl vK2_28_0)), (h_t_powers, .inl (cI, 8, .inl a_t_powers))] H → va_D A [(h_t, .inr (8, [.int t_genus, .int t_marks, .ref h_t_powers, .int t_leaves, .int t_splits, .ref h_t_tree, .ref h_t_ahead, .ref h_t_behind, .ref h_t_before, .int t_done, .int t_undone, .ref h_t_rows, .ref h_t_met, .ref h_t_metSizes, .int t_metMany, .int t_treesSeen, .ref h_t_chosen, .ref h_t_tape, .int t_taped, .int t_place, .int t_isWrong, .int t_toldGenus, .int t_toldMarks, .ref h_t_toldPowers, .ref h_t_powerPlaces, .int t_isTree, .int t_toldLeaves, .int t_leavesPlace, .int t_toldSplits, .ref h_t_toldTree, .ref h_t_splitPlaces, .ref h_t_layers, .int t_isWhy, .ref h_t_paper, .int t_papered, .ref h_t_held, .ref h_t_numbers, .ref h_t_sizes, .ref h_t_heldLeaves, .ref h_t_items, .ref h_t_kept, .int t_isKept])), (h_t_rows, .inl (cI, 480, .inl vK2_28_0)), (h_t_powers, .inl (cI, 8, .inl a_t_powers))] → va_S A s.heap H locs → lv_has ls 2 [(0, .ref h_t)] → K_X9_numberOfMarks_2_28 t_genus t_marks vK2_28_0 = some (r0, w0) → W p l e (headSpec wsX9_numberOfMarks ({ frames := 20, cells := 0, slots := 0, locals := 580 })).room s m ([.ref h_t] : List Value).toArray below meth c H locs 0 0 (MQ below (va_Ql (fun r (_ : Unit) => r = r0 ∧ True) (fun _ t => va_P G vwCl [(h_t, .inr (8, [.int t_genus, .int t_marks, .ref h_t_powers, .int t_leaves, .int t_splits, .ref h_t_tree, .ref h_t_ahead, .ref h_t_behind, .ref h_t_before, .int t_done, .int t_undone, .ref h_t_rows, .ref h_t_met, .ref h_t_metSizes, .int t_metMany, .int t_treesSeen, .ref h_t_chosen, .ref h_t_tape, .int t_taped, .int t_place, .int t_isWrong, .int t_toldGenus, .int t_toldMarks, .ref h_t_toldPowers, .ref h_t_powerPlaces, .int t_isTree, .int t_toldLeaves, .int t_leavesPlace, .int t_toldSplits, .ref h_t_toldTree, .ref h_t_splitPlaces, .ref h_t_layers, .int t_isWhy, .ref h_t_paper, .int t_papered, .ref h_t_held, .ref h_t_numbers, .ref h_t_sizes, .ref h_t_heldLeaves, .ref h_t_items, .ref h_t_kept, .int t_isKept])), (h_t_rows, .inl (cI, 480, .inl w0)), (h_t_powers, .inl (cI, 8, .inl a_t_powers))] t.heap) A) ([.ref h_t] : List Value).toArray s 0 0 A) (F0 m 28 ls []) := by
  have hta : ∀ w ∈ wA, w.before ([.ref h_t] : List Value).toArray s = true := hta_of hts
  have hinX9 : ∀ w ∈ wsX90, w ∈ wsX9_numberOfMarks := hin_of in_X9
  intro vK2_28_0 H locs ls hP hD hS hl h
  unfold K_X9_numberOfMarks_2_28 at h
  refine lv_aload_n hx hb dX9_numberOfMarks_28 rfl (lv_at hl 0 rfl) ?_
  refine lv_aload_n hx hb dX9_numberOfMarks_29 rfl (lv_at hl 0 rfl) ?_
  refine va_get (D := G) (ci := 8) (v := .int t_genus) (C := RX9) (T := TX9) (N := 42) hx hb hts hinX9 hown hK hP 0 rfl rfl 0 (by decide) (hta _ mw_640) (fun _ h9 => h9) rfl dX9_numberOfMarks_30 ?_
  refine lv_aload_n hx hb dX9_numberOfMarks_33 rfl (lv_at hl 0 rfl) ?_
  refine va_get (D := G) (ci := 8) (v := .int t_marks) (C := RX9) (T := TX9) (N := 42) hx hb hts hinX9 hown hK hP 0 rfl rfl 1 (by decide) (hta _ mw_641) (fun _ h9 => h9) rfl dX9_numberOfMarks_34 ?_
  obtain ⟨x1, hx1, h⟩ := bd_e h
  try dsimp only at h
  refine k_VlM (n := 2) (As := [.int t_genus, .int t_marks]) (rest := []) hx hb hml hown hts (c_X9_numberOf l G cI cJ cD cH H.size h_t h_t_rows h_t_powers h_t_tree h_t_ahead h_t_behind h_t_before h_t_met h_t_metSizes h_t_chosen h_t_tape h_t_toldPowers h_t_powerPlaces h_t_toldTree h_t_splitPlaces h_t_layers h_t_paper h_t_held h_t_numbers h_t_sizes h_t_heldLeaves h_t_items h_t_kept t_genus t_marks t_leaves t_splits t_done t_undone t_metMany t_treesSeen t_taped t_place t_isWrong t_toldGenus t_toldMarks t_isTree t_toldLeaves t_leavesPlace t_toldSplits t_isWhy t_papered t_isKept vK2_28_0 t_genus t_marks (x1.1) (x1.2) hx1) gX9_numberOfMarks_X9_numberOf rfl rfl rfl (by decide +kernel) ⟨by first | exact Nat.le_of_ble_eq_true rfl | (simp only [headSpec]; omega), by first | exact Nat.le_of_ble_eq_true rfl | (simp only [headSpec]; omega)⟩ hK hP hD hS hA [0, 1] (by decide) rfl rfl (ci := 8) rfl rfl rfl rfl rfl hl.1 (Nat.le_of_ble_eq_true rfl) dX9_numberOfMarks_37 ⟨Nat.zero_le _, Nat.zero_le _⟩ [(h_t, .inr (8, [.int t_genus, .int t_marks, .ref h_t_powers, .int t_leaves, .int t_splits, .ref h_t_tree, .ref h_t_ahead, .ref h_t_behind, .ref h_t_before, .int t_done, .int t_undone, .ref h_t_rows, .ref h_t_met, .ref h_t_metSizes, .int t_metMany, .int t_treesSeen, .ref h_t_chosen, .ref h_t_tape, .int t_taped, .int t_place, .int t_isWrong, .int t_toldGenus, .int t_toldMarks, .ref h_t_toldPowers, .ref h_t_powerPlaces, .int t_isTree, .int t_toldLeaves, .int t_leavesPlace, .int t_toldSplits, .ref h_t_toldTree, .ref h_t_splitPlaces, .ref h_t_layers, .int t_isWhy, .ref h_t_paper, .int t_papered, .ref h_t_held, .ref h_t_numbers, .ref h_t_sizes, .ref h_t_heldLeaves, .ref h_t_items, .ref h_t_kept, .int t_isKept])), (h_t_rows, .inl (cI, 480, .inl (x1.2))), (h_t_powers, .inl (cI, 8, .inl a_t_powers))] [1, 2, 0] 2 (by decide +kernel) rfl rfl rfl (fun hp1 H locs hP hD hS => ?_)
  have h9 := Option.some.inj h
  have e9 : (x1.1) = r0 := congrArg (fun z9 => z9.1) h9
  rw [← e9]
  have e9 : (x1.2) = w0 := congrArg (fun z9 => z9.2) h9
  rw [← e9]
  exact k_lret hx hb hr hlocks hP hS rfl dX9_numberOfMarks_40
set_option maxHeartbeats 4000000 in
set_option maxRecDepth 100000 in
theorem c_X9_numberOfMarks (l : Launch) (G : va_G) (cI cJ cD cH : ClassId) (sz : Nat) (h_t : Nat) (h_t_rows : Nat) (h_t_powers : Nat) (h_t_tree : Nat) (h_t_ahead : Nat) (h_t_behind : Nat) (h_t_before : Nat) (h_t_met : Nat) (h_t_metSizes : Nat) (h_t_chosen : Nat) (h_t_tape : Nat) (h_t_toldPowers : Nat) (h_t_powerPlaces : Nat) (h_t_toldTree : Nat) (h_t_splitPlaces : Nat) (h_t_layers : Nat) (h_t_paper : Nat) (h_t_held : Nat) (h_t_numbers : Nat) (h_t_sizes : Nat) (h_t_heldLeaves : Nat) (h_t_items : Nat) (h_t_kept : Nat) (t_genus : Int32) (t_marks : Int32) (t_leaves : Int32) (t_splits : Int32) (t_done : Int32) (t_undone : Int32) (t_metMany : Int32) (t_treesSeen : Int32) (t_taped : Int32) (t_place : Int32) (t_isWrong : Int32) (t_toldGenus : Int32) (t_toldMarks : Int32) (t_isTree : Int32) (t_toldLeaves : Int32) (t_leavesPlace : Int32) (t_toldSplits : Int32) (t_isWhy : Int32) (t_papered : Int32) (t_isKept : Int32) (a_t_rows : Nat → Int32) (a_t_powers : Nat → Int32) (r0 : Int64) (w0 : Nat → Int32) (hF : F_X9_numberOfMarks t_genus t_marks a_t_rows a_t_powers = some (r0, w0)) : Met l yX9_numberOfMarks wsX9_numberOfMarks ({ frames := 20, cells := 0, slots := 0, locals := 580 }) (k_pre G (k_T cI cJ cD cH) [(h_t, .inr (8, [.int t_genus, .int t_marks, .ref h_t_powers, .int t_leaves, .int t_splits, .ref h_t_tree, .ref h_t_ahead, .ref h_t_behind, .ref h_t_before, .int t_done, .int t_undone, .ref h_t_rows, .ref h_t_met, .ref h_t_metSizes, .int t_metMany, .int t_treesSeen, .ref h_t_chosen, .ref h_t_tape, .int t_taped, .int t_place, .int t_isWrong, .int t_toldGenus, .int t_toldMarks, .ref h_t_toldPowers, .ref h_t_powerPlaces, .int t_isTree, .int t_toldLeaves, .int t_leavesPlace, .int t_toldSplits, .ref h_t_toldTree, .ref h_t_splitPlaces, .ref h_t_layers, .int t_isWhy, .ref h_t_paper, .int t_papered, .ref h_t_held, .ref h_t_numbers, .ref h_t_sizes, .ref h_t_heldLeaves, .ref h_t_items, .ref h_t_kept, .int t_isKept])), (h_t_rows, .inl (cI, 480, .inl a_t_rows)), (h_t_powers, .inl (cI, 8, .inl a_t_powers))] sz [.ref h_t]) (va_Ql (fun r (_ : Unit) => r = r0 ∧ True) (fun _ t => va_P G vwCl [(h_t, .inr (8, [.int t_genus, .int t_marks, .ref h_t_powers, .int t_leaves, .int t_splits, .ref h_t_tree, .ref h_t_ahead, .ref h_t_behind, .ref h_t_before, .int t_done, .int t_undone, .ref h_t_rows, .ref h_t_met, .ref h_t_metSizes, .int t_metMany, .int t_treesSeen, .ref h_t_chosen, .ref h_t_tape, .int t_taped, .int t_place, .int t_isWrong, .int t_toldGenus, .int t_toldMarks, .ref h_t_toldPowers, .ref h_t_powerPlaces, .int t_isTree, .int t_toldLeaves, .int t_leavesPlace, .int t_toldSplits, .ref h_t_toldTree, .ref h_t_splitPlaces, .ref h_t_layers, .int t_isWhy, .ref h_t_paper, .int t_papered, .ref h_t_held, .ref h_t_numbers, .ref h_t_sizes, .ref h_t_heldLeaves, .ref h_t_items, .ref h_t_kept, .int t_isKept])), (h_t_rows, .inl (cI, 480, .inl w0)), (h_t_powers, .inl (cI, 8, .inl a_t_powers))] t.heap) (va_A [(h_t, .inr (8, [.int t_genus, .int t_marks, .ref h_t_powers, .int t_leaves, .int t_splits, .ref h_t_tree, .ref h_t_ahead, .ref h_t_behind, .ref h_t_before, .int t_done, .int t_undone, .ref h_t_rows, .ref h_t_met, .ref h_t_metSizes, .int t_metMany, .int t_treesSeen, .ref h_t_chosen, .ref h_t_tape, .int t_taped, .int t_place, .int t_isWrong, .int t_toldGenus, .int t_toldMarks, .ref h_t_toldPowers, .ref h_t_powerPlaces, .int t_isTree, .int t_toldLeaves, .int t_leavesPlace, .int t_toldSplits, .ref h_t_toldTree, .ref h_t_splitPlaces, .ref h_t_layers, .int t_isWhy, .ref h_t_paper, .int t_papered, .ref h_t_held, .ref h_t_numbers, .ref h_t_sizes, .ref h_t_heldLeaves, .ref h_t_items, .ref h_t_kept, .int t_isKept])), (h_t_rows, .inl (cI, 480, .inl a_t_rows)), (h_t_powers, .inl (cI, 8, .inl a_t_powers))] sz)) 0 0 (va_A [(h_t, .inr (8, [.int t_genus, .int t_marks, .ref h_t_powers, .int t_leaves, .int t_splits, .ref h_t_tree, .ref h_t_ahead, .ref h_t_behind, .ref h_t_before, .int t_done, .int t_undone, .ref h_t_rows, .ref h_t_met, .ref h_t_metSizes, .int t_metMany, .int t_treesSeen, .ref h_t_chosen, .ref h_t_tape, .int t_taped, .int t_place, .int t_isWrong, .int t_toldGenus, .int t_toldMarks, .ref h_t_toldPowers, .ref h_t_powerPlaces, .int t_isTree, .int t_toldLeaves, .int t_leavesPlace, .int t_toldSplits, .ref h_t_toldTree, .ref h_t_splitPlaces, .ref h_t_layers, .int t_isWhy, .ref h_t_paper, .int t_papered, .ref h_t_held, .ref h_t_numbers, .ref h_t_sizes, .ref h_t_heldLeaves, .ref h_t_items, .ref h_t_kept, .int t_isKept])), (h_t_rows, .inl (cI, 480, .inl a_t_rows)), (h_t_powers, .inl (cI, 8, .inl a_t_powers))] sz) := by
  refine Met.ofW (cc := cX9_numberOfMarks) (maxL := 2) (ret := (some .long)) (by decide) rfl ?_
  intro p e s m args below meth c s₁ B hml hv
  obtain ⟨rfl, hsz, hP, hK, hD0⟩ := hv
  have hx := B.exec
  have hb := B.bytes
  have hr := B.returns
  have hts := atoms_spec (ws := wsX9_numberOfMarks) B.pre
  have hta : ∀ w ∈ wA, w.before ([.ref h_t] : List Value).toArray s = true := hta_of hts
  have hown : s.vm.findClass RX9 = some m.cls := findClass_of_methodNamed B.named
  have hlocks := B.notSynchronized
  subst hsz
  have hD := hD0.self (sz := s.heap.size)
  generalize hAe : va_A [(h_t, .inr (8, [.int t_genus, .int t_marks, .ref h_t_powers, .int t_leaves, .int t_splits, .ref h_t_tree, .ref h_t_ahead, .ref h_t_behind, .ref h_t_before, .int t_done, .int t_undone, .ref h_t_rows, .ref h_t_met, .ref h_t_metSizes, .int t_metMany, .int t_treesSeen, .ref h_t_chosen, .ref h_t_tape, .int t_taped, .int t_place, .int t_isWrong, .int t_toldGenus, .int t_toldMarks, .ref h_t_toldPowers, .ref h_t_powerPlaces, .int t_isTree, .int t_toldLeaves, .int t_leavesPlace, .int t_toldSplits, .ref h_t_toldTree, .ref h_t_splitPlaces, .ref h_t_layers, .int t_isWhy, .ref h_t_paper, .int t_papered, .ref h_t_held, .ref h_t_numbers, .ref h_t_sizes, .ref h_t_heldLeaves, .ref h_t_items, .ref h_t_kept, .int t_isKept])), (h_t_rows, .inl (cI, 480, .inl a_t_rows)), (h_t_powers, .inl (cI, 8, .inl a_t_powers))] s.heap.size = A at hD ⊢
  have hA : ∀ q : Nat, s.heap.size ≤ q → A q := fun q h => by rw [← hAe]; exact Or.inr h
  have hS : va_S A s.heap s.heap [] := va_S.rf
  have hl := lv_entry ([.ref h_t]) (n := 2) (Nat.le_of_ble_eq_true rfl)
  rw [lg_entry_eq]
  generalize (lg_sl ([.ref h_t]) ++ List.replicate (2 - (lg_sl ([.ref h_t])).length) Slot.unset).toArray = ls at hl ⊢
  have hl : lv_has ls 2 [(0, .ref h_t)] := hl
  have hinX9 : ∀ w ∈ wsX90, w ∈ wsX9_numberOfMarks := hin_of in_X9
  have h := hF
  unfold F_X9_numberOfMarks at h
  refine lv_iconst (v := (0 : Int32)) hx hb dX9_numberOfMarks_0 (by decide) ?_
  refine lv_istore_n (lv' := [(1, .int (0 : Int32)), (0, .ref h_t)]) hx hb dX9_numberOfMarks_1 rfl hl (by decide) rfl (fun ls hl => ?_)
  have hL2 : ∀ (n2 : Nat) (vL2_0 : Nat → Int32) (vL2_1 : Int32) (H : Heap) (locs : List Loc) (ls : Array Slot), va_P G vwCl [(h_t, .inr (8, [.int t_genus, .int t_marks, .ref h_t_powers, .int t_leaves, .int t_splits, .ref h_t_tree, .ref h_t_ahead, .ref h_t_behind, .ref h_t_before, .int t_done, .int t_undone, .ref h_t_rows, .ref h_t_met, .ref h_t_metSizes, .int t_metMany, .int t_treesSeen, .ref h_t_chosen, .ref h_t_tape, .int t_taped, .int t_place, .int t_isWrong, .int t_toldGenus, .int t_toldMarks, .ref h_t_toldPowers, .ref h_t_powerPlaces, .int t_isTree, .int t_toldLeaves, .int t_leavesPlace, .int t_toldSplits, .ref h_t_toldTree, .ref h_t_splitPlaces, .ref h_t_layers, .int t_isWhy, .ref h_t_paper, .int t_papered, .ref h_t_held, .ref h_t_numbers, .ref h_t_sizes, .ref h_t_heldLeaves, .ref h_t_items, .ref h_t_kept, .int t_isKept])), (h_t_rows, .inl (cI, 480, .inl vL2_0)), (h_t_powers, .inl (cI, 8, .inl a_t_powers))] H → va_D A [(h_t, .inr (8, [.int t_genus, .int t_marks, .ref h_t_powers, .int t_leaves, .int t_splits, .ref h_t_tree, .ref h_t_ahead, .ref h_t_behind, .ref h_t_before, .int t_done, .int t_undone, .ref h_t_rows, .ref h_t_met, .ref h_t_metSizes, .int t_metMany, .int t_treesSeen, .ref h_t_chosen, .ref h_t_tape, .int t_taped, .int t_place, .int t_isWrong, .int t_toldGenus, .int t_toldMarks, .ref h_t_toldPowers, .ref h_t_powerPlaces, .int t_isTree, .int t_toldLeaves, .int t_leavesPlace, .int t_toldSplits, .ref h_t_toldTree, .ref h_t_splitPlaces, .ref h_t_layers, .int t_isWhy, .ref h_t_paper, .int t_papered, .ref h_t_held, .ref h_t_numbers, .ref h_t_sizes, .ref h_t_heldLeaves, .ref h_t_items, .ref h_t_kept, .int t_isKept])), (h_t_rows, .inl (cI, 480, .inl vL2_0)), (h_t_powers, .inl (cI, 8, .inl a_t_powers))] → va_S A s.heap H locs → lv_has ls 2 [(0, .ref h_t), (1, .int vL2_1)] → wq2 (B_X9_numberOfMarks_2 t_marks a_t_powers (K_X9_numberOfMarks_2_28 t_genus t_marks)) n2 vL2_0 vL2_1 = some (r0, w0) → W p l e (headSpec wsX9_numberOfMarks ({ frames := 20, cells := 0, slots := 0, locals := 580 })).room s m ([.ref h_t] : List Value).toArray below meth c H locs 0 0 (MQ below (va_Ql (fun r (_ : Unit) => r = r0 ∧ True) (fun _ t => va_P G vwCl [(h_t, .inr (8, [.int t_genus, .int t_marks, .ref h_t_powers, .int t_leaves, .int t_splits, .ref h_t_tree, .ref h_t_ahead, .ref h_t_behind, .ref h_t_before, .int t_done, .int t_undone, .ref h_t_rows, .ref h_t_met, .ref h_t_metSizes, .int t_metMany, .int t_treesSeen, .ref h_t_chosen, .ref h_t_tape, .int t_taped, .int t_place, .int t_isWrong, .int t_toldGenus, .int t_toldMarks, .ref h_t_toldPowers, .ref h_t_powerPlaces, .int t_isTree, .int t_toldLeaves, .int t_leavesPlace, .int t_toldSplits, .ref h_t_toldTree, .ref h_t_splitPlaces, .ref h_t_layers, .int t_isWhy, .ref h_t_paper, .int t_papered, .ref h_t_held, .ref h_t_numbers, .ref h_t_sizes, .ref h_t_heldLeaves, .ref h_t_items, .ref h_t_kept, .int t_isKept])), (h_t_rows, .inl (cI, 480, .inl w0)), (h_t_powers, .inl (cI, 8, .inl a_t_powers))] t.heap) A) ([.ref h_t] : List Value).toArray s 0 0 A) (F0 m 2 ls []) := by
    intro n2
    induction n2 with
    | zero => intro vL2_0 vL2_1 H locs ls hP hD hS hl h; exact wq2_0 h
    | succ n2 ih2 =>
      intro vL2_0 vL2_1 H locs ls hP hD hS hl h
      have h := wq2_s h
      unfold B_X9_numberOfMarks_2 at h
      refine lv_iload_n hx hb dX9_numberOfMarks_2 rfl (lv_at hl 1 rfl) ?_
      refine lv_aload_n hx hb dX9_numberOfMarks_3 rfl (lv_at hl 0 rfl) ?_
      refine va_get (D := G) (ci := 8) (v := .int t_marks) (C := RX9) (T := TX9) (N := 42) hx hb hts hinX9 hown hK hP 0 rfl rfl 1 (by decide) (hta _ mw_641) (fun _ h9 => h9) rfl dX9_numberOfMarks_4 ?_
      refine lv_icmp_ge (tgt := 28) hx hb dX9_numberOfMarks_7 (by decide) (fun c2 => ?_) (fun c2 => ?_)
      · have h := it_p h c2
        exact tK_X9_numberOfMarks_2_28 hx hb hr hml hts hown hlocks hK hA vL2_0 _ _ _ hP hD hS (lv_sub hl [0] rfl) h
      have h := it_n h c2
      refine lv_aload_n hx hb dX9_numberOfMarks_10 rfl (lv_at hl 0 rfl) ?_
      refine va_get (D := G) (ci := 8) (v := .ref h_t_rows) (C := RX9) (T := TX9) (N := 42) hx hb hts hinX9 hown hK hP 0 rfl rfl 11 (by decide) (hta _ mw_614) (fun _ h9 => h9) rfl dX9_numberOfMarks_11 ?_
      refine lv_iload_n hx hb dX9_numberOfMarks_14 rfl (lv_at hl 1 rfl) ?_
      refine lv_aload_n hx hb dX9_numberOfMarks_15 rfl (lv_at hl 0 rfl) ?_
      refine va_get (D := G) (ci := 8) (v := .ref h_t_powers) (C := RX9) (T := TX9) (N := 42) hx hb hts hinX9 hown hK hP 0 rfl rfl 2 (by decide) (hta _ mw_608) (fun _ h9 => h9) rfl dX9_numberOfMarks_16 ?_
      refine lv_iload_n hx hb dX9_numberOfMarks_19 rfl (lv_at hl 1 rfl) ?_
      obtain ⟨hn3, h⟩ := ck_e h
      refine va_iald hx hb hK hP 2 0 rfl rfl hn3 dX9_numberOfMarks_20 ?_
      obtain ⟨hn4, h⟩ := ck_e h
      refine va_iast hx hb hK hP hD hS 1 0 rfl rfl hn4 dX9_numberOfMarks_21 (fun H locs hP hD hS => ?_)
      have hP : va_P G vwCl [(h_t, .inr (8, [.int t_genus, .int t_marks, .ref h_t_powers, .int t_leaves, .int t_splits, .ref h_t_tree, .ref h_t_ahead, .ref h_t_behind, .ref h_t_before, .int t_done, .int t_undone, .ref h_t_rows, .ref h_t_met, .ref h_t_metSizes, .int t_metMany, .int t_treesSeen, .ref h_t_chosen, .ref h_t_tape, .int t_taped, .int t_place, .int t_isWrong, .int t_toldGenus, .int t_toldMarks, .ref h_t_toldPowers, .ref h_t_powerPlaces, .int t_isTree, .int t_toldLeaves, .int t_leavesPlace, .int t_toldSplits, .ref h_t_toldTree, .ref h_t_splitPlaces, .ref h_t_layers, .int t_isWhy, .ref h_t_paper, .int t_papered, .ref h_t_held, .ref h_t_numbers, .ref h_t_sizes, .ref h_t_heldLeaves, .ref h_t_items, .ref h_t_kept, .int t_isKept])), (h_t_rows, .inl (cI, 480, .inl (upd vL2_0 vL2_1.toNatClampNeg (a_t_powers vL2_1.toNatClampNeg)))), (h_t_powers, .inl (cI, 8, .inl a_t_powers))] H := hP
      have hD : va_D A [(h_t, .inr (8, [.int t_genus, .int t_marks, .ref h_t_powers, .int t_leaves, .int t_splits, .ref h_t_tree, .ref h_t_ahead, .ref h_t_behind, .ref h_t_before, .int t_done, .int t_undone, .ref h_t_rows, .ref h_t_met, .ref h_t_metSizes, .int t_metMany, .int t_treesSeen, .ref h_t_chosen, .ref h_t_tape, .int t_taped, .int t_place, .int t_isWrong, .int t_toldGenus, .int t_toldMarks, .ref h_t_toldPowers, .ref h_t_powerPlaces, .int t_isTree, .int t_toldLeaves, .int t_leavesPlace, .int t_toldSplits, .ref h_t_toldTree, .ref h_t_splitPlaces, .ref h_t_layers, .int t_isWhy, .ref h_t_paper, .int t_papered, .ref h_t_held, .ref h_t_numbers, .ref h_t_sizes, .ref h_t_heldLeaves, .ref h_t_items, .ref h_t_kept, .int t_isKept])), (h_t_rows, .inl (cI, 480, .inl (upd vL2_0 vL2_1.toNatClampNeg (a_t_powers vL2_1.toNatClampNeg)))), (h_t_powers, .inl (cI, 8, .inl a_t_powers))] := hD
      refine lv_iinc (v := (vL2_1 + (1 : Int32))) (lv' := [(1, .int (vL2_1 + (1 : Int32))), (0, .ref h_t)]) hx hb dX9_numberOfMarks_22 hl (k := 1) rfl (by first | rfl | decide) (by decide) rfl (fun ls hl => ?_)
      refine lv_goto (tgt := 2) hx hb dX9_numberOfMarks_25 (by decide) ?_
      exact ih2 (upd vL2_0 vL2_1.toNatClampNeg (a_t_powers vL2_1.toNatClampNeg)) (vL2_1 + (1 : Int32)) _ _ _ hP hD hS (lv_sub hl [1, 0] rfl) h
  exact hL2 FU a_t_rows (0 : Int32) _ _ _ hP hD hS (lv_sub hl [1, 0] rfl) h

/-! X9_number -/
set_option maxHeartbeats 4000000 in
set_option maxRecDepth 100000 in
theorem c_X9_number (l : Launch) (G : va_G) (cI cJ cD cH : ClassId) (sz : Nat) (h_t : Nat) (h_t_rows : Nat) (h_t_powers : Nat) (h_t_tree : Nat) (h_t_ahead : Nat) (h_t_behind : Nat) (h_t_before : Nat) (h_t_met : Nat) (h_t_metSizes : Nat) (h_t_chosen : Nat) (h_t_tape : Nat) (h_t_toldPowers : Nat) (h_t_powerPlaces : Nat) (h_t_toldTree : Nat) (h_t_splitPlaces : Nat) (h_t_layers : Nat) (h_t_paper : Nat) (h_t_held : Nat) (h_t_numbers : Nat) (h_t_sizes : Nat) (h_t_heldLeaves : Nat) (h_t_items : Nat) (h_t_kept : Nat) (t_genus : Int32) (t_marks : Int32) (t_leaves : Int32) (t_splits : Int32) (t_done : Int32) (t_undone : Int32) (t_metMany : Int32) (t_treesSeen : Int32) (t_taped : Int32) (t_place : Int32) (t_isWrong : Int32) (t_toldGenus : Int32) (t_toldMarks : Int32) (t_isTree : Int32) (t_toldLeaves : Int32) (t_leavesPlace : Int32) (t_toldSplits : Int32) (t_isWhy : Int32) (t_papered : Int32) (t_isKept : Int32) (a_t_rows : Nat → Int32) (a_t_powers : Nat → Int32) (p0 : Int32) (r0 : Int64) (w0 : Nat → Int32) (hF : F_X9_number t_genus t_marks a_t_rows a_t_powers p0 = some (r0, w0)) : Met l yX9_number wsX9_number ({ frames := 21, cells := 0, slots := 0, locals := 601 }) (k_pre G (k_T cI cJ cD cH) [(h_t, .inr (8, [.int t_genus, .int t_marks, .ref h_t_powers, .int t_leaves, .int t_splits, .ref h_t_tree, .ref h_t_ahead, .ref h_t_behind, .ref h_t_before, .int t_done, .int t_undone, .ref h_t_rows, .ref h_t_met, .ref h_t_metSizes, .int t_metMany, .int t_treesSeen, .ref h_t_chosen, .ref h_t_tape, .int t_taped, .int t_place, .int t_isWrong, .int t_toldGenus, .int t_toldMarks, .ref h_t_toldPowers, .ref h_t_powerPlaces, .int t_isTree, .int t_toldLeaves, .int t_leavesPlace, .int t_toldSplits, .ref h_t_toldTree, .ref h_t_splitPlaces, .ref h_t_layers, .int t_isWhy, .ref h_t_paper, .int t_papered, .ref h_t_held, .ref h_t_numbers, .ref h_t_sizes, .ref h_t_heldLeaves, .ref h_t_items, .ref h_t_kept, .int t_isKept])), (h_t_rows, .inl (cI, 480, .inl a_t_rows)), (h_t_powers, .inl (cI, 8, .inl a_t_powers))] sz [.ref h_t, .int p0]) (va_Ql (fun r (_ : Unit) => r = r0 ∧ True) (fun _ t => va_P G vwCl [(h_t, .inr (8, [.int t_genus, .int t_marks, .ref h_t_powers, .int t_leaves, .int t_splits, .ref h_t_tree, .ref h_t_ahead, .ref h_t_behind, .ref h_t_before, .int t_done, .int t_undone, .ref h_t_rows, .ref h_t_met, .ref h_t_metSizes, .int t_metMany, .int t_treesSeen, .ref h_t_chosen, .ref h_t_tape, .int t_taped, .int t_place, .int t_isWrong, .int t_toldGenus, .int t_toldMarks, .ref h_t_toldPowers, .ref h_t_powerPlaces, .int t_isTree, .int t_toldLeaves, .int t_leavesPlace, .int t_toldSplits, .ref h_t_toldTree, .ref h_t_splitPlaces, .ref h_t_layers, .int t_isWhy, .ref h_t_paper, .int t_papered, .ref h_t_held, .ref h_t_numbers, .ref h_t_sizes, .ref h_t_heldLeaves, .ref h_t_items, .ref h_t_kept, .int t_isKept])), (h_t_rows, .inl (cI, 480, .inl w0)), (h_t_powers, .inl (cI, 8, .inl a_t_powers))] t.heap) (va_A [(h_t, .inr (8, [.int t_genus, .int t_marks, .ref h_t_powers, .int t_leaves, .int t_splits, .ref h_t_tree, .ref h_t_ahead, .ref h_t_behind, .ref h_t_before, .int t_done, .int t_undone, .ref h_t_rows, .ref h_t_met, .ref h_t_metSizes, .int t_metMany, .int t_treesSeen, .ref h_t_chosen, .ref h_t_tape, .int t_taped, .int t_place, .int t_isWrong, .int t_toldGenus, .int t_toldMarks, .ref h_t_toldPowers, .ref h_t_powerPlaces, .int t_isTree, .int t_toldLeaves, .int t_leavesPlace, .int t_toldSplits, .ref h_t_toldTree, .ref h_t_splitPlaces, .ref h_t_layers, .int t_isWhy, .ref h_t_paper, .int t_papered, .ref h_t_held, .ref h_t_numbers, .ref h_t_sizes, .ref h_t_heldLeaves, .ref h_t_items, .ref h_t_kept, .int t_isKept])), (h_t_rows, .inl (cI, 480, .inl a_t_rows)), (h_t_powers, .inl (cI, 8, .inl a_t_powers))] sz)) 0 0 (va_A [(h_t, .inr (8, [.int t_genus, .int t_marks, .ref h_t_powers, .int t_leaves, .int t_splits, .ref h_t_tree, .ref h_t_ahead, .ref h_t_behind, .ref h_t_before, .int t_done, .int t_undone, .ref h_t_rows, .ref h_t_met, .ref h_t_metSizes, .int t_metMany, .int t_treesSeen, .ref h_t_chosen, .ref h_t_tape, .int t_taped, .int t_place, .int t_isWrong, .int t_toldGenus, .int t_toldMarks, .ref h_t_toldPowers, .ref h_t_powerPlaces, .int t_isTree, .int t_toldLeaves, .int t_leavesPlace, .int t_toldSplits, .ref h_t_toldTree, .ref h_t_splitPlaces, .ref h_t_layers, .int t_isWhy, .ref h_t_paper, .int t_papered, .ref h_t_held, .ref h_t_numbers, .ref h_t_sizes, .ref h_t_heldLeaves, .ref h_t_items, .ref h_t_kept, .int t_isKept])), (h_t_rows, .inl (cI, 480, .inl a_t_rows)), (h_t_powers, .inl (cI, 8, .inl a_t_powers))] sz) := by
  refine Met.ofW (cc := cX9_number) (maxL := 2) (ret := (some .long)) (by decide) rfl ?_
  intro p e s m args below meth c s₁ B hml hv
  obtain ⟨rfl, hsz, hP, hK, hD0⟩ := hv
  have hx := B.exec
  have hb := B.bytes
  have hr := B.returns
  have hts := atoms_spec (ws := wsX9_number) B.pre
  have hta : ∀ w ∈ wA, w.before ([.ref h_t, .int p0] : List Value).toArray s = true := hta_of hts
  have hown : s.vm.findClass RX9 = some m.cls := findClass_of_methodNamed B.named
  have hlocks := B.notSynchronized
  subst hsz
  have hD := hD0.self (sz := s.heap.size)
  generalize hAe : va_A [(h_t, .inr (8, [.int t_genus, .int t_marks, .ref h_t_powers, .int t_leaves, .int t_splits, .ref h_t_tree, .ref h_t_ahead, .ref h_t_behind, .ref h_t_before, .int t_done, .int t_undone, .ref h_t_rows, .ref h_t_met, .ref h_t_metSizes, .int t_metMany, .int t_treesSeen, .ref h_t_chosen, .ref h_t_tape, .int t_taped, .int t_place, .int t_isWrong, .int t_toldGenus, .int t_toldMarks, .ref h_t_toldPowers, .ref h_t_powerPlaces, .int t_isTree, .int t_toldLeaves, .int t_leavesPlace, .int t_toldSplits, .ref h_t_toldTree, .ref h_t_splitPlaces, .ref h_t_layers, .int t_isWhy, .ref h_t_paper, .int t_papered, .ref h_t_held, .ref h_t_numbers, .ref h_t_sizes, .ref h_t_heldLeaves, .ref h_t_items, .ref h_t_kept, .int t_isKept])), (h_t_rows, .inl (cI, 480, .inl a_t_rows)), (h_t_powers, .inl (cI, 8, .inl a_t_powers))] s.heap.size = A at hD ⊢
  have hA : ∀ q : Nat, s.heap.size ≤ q → A q := fun q h => by rw [← hAe]; exact Or.inr h
  have hS : va_S A s.heap s.heap [] := va_S.rf
  have hl := lv_entry ([.ref h_t, .int p0]) (n := 2) (Nat.le_of_ble_eq_true rfl)
  rw [lg_entry_eq]
  generalize (lg_sl ([.ref h_t, .int p0]) ++ List.replicate (2 - (lg_sl ([.ref h_t, .int p0])).length) Slot.unset).toArray = ls at hl ⊢
  have hl : lv_has ls 2 [(0, .ref h_t), (1, .int p0)] := hl
  have hinX9 : ∀ w ∈ wsX90, w ∈ wsX9_number := hin_of in_X9
  have h := hF
  unfold F_X9_number at h
  refine lv_iload_n hx hb dX9_number_0 rfl (lv_at hl 1 rfl) ?_
  refine lv_i2l (v := p0.toInt64) hx hb dX9_number_1 (by first | rfl | decide) ?_
  refine lv_lconst (v := (0 : Int64)) hx hb dX9_number_2 (by decide) ?_
  refine lv_lconst (v := (1 : Int64)) hx hb dX9_number_3 (by decide) ?_
  obtain ⟨x1, hx1, h⟩ := bd_e h
  try dsimp only at h
  refine k_SiU (n := 3) (As := [.long p0.toInt64, .long (0 : Int64), .long (1 : Int64)]) (rest := []) hx hb hml hown hts (c_X9_in l G cI cJ cD cH s.heap.size p0.toInt64 (0 : Int64) (1 : Int64) x1 hx1) gX9_number_X9_in rfl rfl rfl (by decide +kernel) ⟨by first | exact Nat.le_of_ble_eq_true rfl | (simp only [headSpec]; omega), by first | exact Nat.le_of_ble_eq_true rfl | (simp only [headSpec]; omega)⟩ hK hP hD hS hA [] (by decide) rfl rfl rfl hl.1 (Nat.le_of_ble_eq_true rfl) dX9_number_4 ⟨Nat.zero_le _, Nat.zero_le _⟩ (fun hp1 H locs hP hS => ?_)
  refine lv_if_eq (tgt := 28) hx hb dX9_number_7 (by decide) (fun c2 => ?_) (fun c2 => ?_)
  · have h := it_p h c2
    refine lv_ldc2 (v := (-9223372036854775808 : Int64)) hx hb hown (hta _ mw_709) dX9_number_28 ?_
    have h9 := Option.some.inj h
    have e9 : (-9223372036854775808 : Int64) = r0 := congrArg (fun z9 => z9.1) h9
    rw [← e9]
    have e9 : a_t_rows = w0 := congrArg (fun z9 => z9.2) h9
    rw [← e9]
    exact k_lret hx hb hr hlocks hP hS rfl dX9_number_31
  have h := it_n h c2
  refine lv_aload_n hx hb dX9_number_10 rfl (lv_at hl 0 rfl) ?_
  obtain ⟨x3, hx3, h⟩ := bd_e h
  try dsimp only at h
  refine k_VlM (n := 0) (As := []) (rest := []) hx hb hml hown hts (c_X9_numberOfMarks l G cI cJ cD cH H.size h_t h_t_rows h_t_powers h_t_tree h_t_ahead h_t_behind h_t_before h_t_met h_t_metSizes h_t_chosen h_t_tape h_t_toldPowers h_t_powerPlaces h_t_toldTree h_t_splitPlaces h_t_layers h_t_paper h_t_held h_t_numbers h_t_sizes h_t_heldLeaves h_t_items h_t_kept t_genus t_marks t_leaves t_splits t_done t_undone t_metMany t_treesSeen t_taped t_place t_isWrong t_toldGenus t_toldMarks t_isTree t_toldLeaves t_leavesPlace t_toldSplits t_isWhy t_papered t_isKept a_t_rows a_t_powers (x3.1) (x3.2) hx3) gX9_number_X9_numberOfMarks rfl rfl rfl (by decide +kernel) ⟨by first | exact Nat.le_of_ble_eq_true rfl | (simp only [headSpec]; omega), by first | exact Nat.le_of_ble_eq_true rfl | (simp only [headSpec]; omega)⟩ hK hP hD hS hA [0, 1, 2] (by decide) rfl rfl (ci := 8) rfl rfl rfl rfl rfl hl.1 (Nat.le_of_ble_eq_true rfl) dX9_number_11 ⟨Nat.zero_le _, Nat.zero_le _⟩ [(h_t, .inr (8, [.int t_genus, .int t_marks, .ref h_t_powers, .int t_leaves, .int t_splits, .ref h_t_tree, .ref h_t_ahead, .ref h_t_behind, .ref h_t_before, .int t_done, .int t_undone, .ref h_t_rows, .ref h_t_met, .ref h_t_metSizes, .int t_metMany, .int t_treesSeen, .ref h_t_chosen, .ref h_t_tape, .int t_taped, .int t_place, .int t_isWrong, .int t_toldGenus, .int t_toldMarks, .ref h_t_toldPowers, .ref h_t_powerPlaces, .int t_isTree, .int t_toldLeaves, .int t_leavesPlace, .int t_toldSplits, .ref h_t_toldTree, .ref h_t_splitPlaces, .ref h_t_layers, .int t_isWhy, .ref h_t_paper, .int t_papered, .ref h_t_held, .ref h_t_numbers, .ref h_t_sizes, .ref h_t_heldLeaves, .ref h_t_items, .ref h_t_kept, .int t_isKept])), (h_t_rows, .inl (cI, 480, .inl (x3.2))), (h_t_powers, .inl (cI, 8, .inl a_t_powers))] [1, 2, 3] 3 (by decide +kernel) rfl rfl rfl (fun hp3 H locs hP hD hS => ?_)
  refine lv_aload_n hx hb dX9_number_14 rfl (lv_at hl 0 rfl) ?_
  refine va_get (D := G) (ci := 8) (v := .int t_genus) (C := RX9) (T := TX9) (N := 42) hx hb hts hinX9 hown hK hP 0 rfl rfl 0 (by decide) (hta _ mw_640) (fun _ h9 => h9) rfl dX9_number_15 ?_
  obtain ⟨x4, hx4, h⟩ := bd_e h
  try dsimp only at h
  refine k_SlU (n := 1) (As := [.int t_genus]) (rest := [.long (x3.1)]) hx hb hml hown hts (c_X9_line l G cI cJ cD cH H.size t_genus x4 hx4) gX9_number_X9_line rfl rfl rfl (by decide +kernel) ⟨by first | exact Nat.le_of_ble_eq_true rfl | (simp only [headSpec]; omega), by first | exact Nat.le_of_ble_eq_true rfl | (simp only [headSpec]; omega)⟩ hK hP hD hS hA [] (by decide) rfl rfl rfl hl.1 (Nat.le_of_ble_eq_true rfl) dX9_number_18 ⟨Nat.zero_le _, Nat.zero_le _⟩ (fun hp4 H locs hP hS => ?_)
  refine lv_iload_n hx hb dX9_number_21 rfl (lv_at hl 1 rfl) ?_
  obtain ⟨x5, hx5, h⟩ := bd_e h
  try dsimp only at h
  refine k_SlU (n := 3) (As := [.long (x3.1), .long x4, .int p0]) (rest := []) hx hb hml hown hts (c_X9_part l G cI cJ cD cH H.size (x3.1) x4 p0 x5 hx5) gX9_number_X9_part rfl rfl rfl (by decide +kernel) ⟨by first | exact Nat.le_of_ble_eq_true rfl | (simp only [headSpec]; omega), by first | exact Nat.le_of_ble_eq_true rfl | (simp only [headSpec]; omega)⟩ hK hP hD hS hA [] (by decide) rfl rfl rfl hl.1 (Nat.le_of_ble_eq_true rfl) dX9_number_22 ⟨Nat.zero_le _, Nat.zero_le _⟩ (fun hp5 H locs hP hS => ?_)
  refine lv_goto (tgt := 31) hx hb dX9_number_25 (by decide) ?_
  have h9 := Option.some.inj h
  have e9 : x5 = r0 := congrArg (fun z9 => z9.1) h9
  rw [← e9]
  have e9 : (x3.2) = w0 := congrArg (fun z9 => z9.2) h9
  rw [← e9]
  exact k_lret hx hb hr hlocks hP hS rfl dX9_number_31

/-! X9_ruleOf -/
set_option maxHeartbeats 4000000 in
set_option maxRecDepth 100000 in
theorem tK_X9_ruleOf_2_28 {l : Launch} {G : va_G} {cI cJ cD cH : ClassId} {h_t : Nat} {h_t_rows : Nat} {h_t_powers : Nat} {h_t_tree : Nat} {h_t_ahead : Nat} {h_t_behind : Nat} {h_t_before : Nat} {h_t_met : Nat} {h_t_metSizes : Nat} {h_t_chosen : Nat} {h_t_tape : Nat} {h_t_toldPowers : Nat} {h_t_powerPlaces : Nat} {h_t_toldTree : Nat} {h_t_splitPlaces : Nat} {h_t_layers : Nat} {h_t_paper : Nat} {h_t_held : Nat} {h_t_numbers : Nat} {h_t_sizes : Nat} {h_t_heldLeaves : Nat} {h_t_items : Nat} {h_t_kept : Nat} {t_genus : Int32} {t_marks : Int32} {t_leaves : Int32} {t_splits : Int32} {t_done : Int32} {t_undone : Int32} {t_metMany : Int32} {t_treesSeen : Int32} {t_taped : Int32} {t_place : Int32} {t_isWrong : Int32} {t_toldGenus : Int32} {t_toldMarks : Int32} {t_isTree : Int32} {t_toldLeaves : Int32} {t_leavesPlace : Int32} {t_toldSplits : Int32} {t_isWhy : Int32} {t_papered : Int32} {t_isKept : Int32} {a_t_powers : Nat → Int32} {r0 : Int32} {w0 : Nat → Int32} {p : Program} {e : Env} {s : State} {m : MethodId} {below : List Frame} {meth : Method} {c : Code} {A : Nat → Prop} (hx : p.tables.exec = Jvm.exec) (hb : c.code = cX9_ruleOf) (hr : meth.sig.returnType = (some .int)) (hml : c.maxLocals = 2) (hts : ∀ w ∈ wsX9_ruleOf, w.before ([.ref h_t] : List Value).toArray s = true) (hown : s.vm.findClass RX9 = some m.cls) (hlocks : meth.locks = false) (hK : va_K G vwCl (k_T cI cJ cD cH) s) (hA : ∀ q : Nat, s.heap.size ≤ q → A q) : ∀  (vK2_28_0 : Nat → Int32) (H : Heap) (locs : List Loc) (ls : Array Slot), va_P G vwCl [(h_t, .inr (8, [.int t_genus, .int t_marks, .ref h_t_powers, .int t_leaves, .int t_splits, .ref h_t_tree, .ref h_t_ahead, .ref h_t_behind, .ref h_t_before, .int t_done, .int t_undone, .ref h_t_rows, .ref h_t_met, .ref h_t_metSizes, .int t_metMany, .int t_treesSeen, .ref h_t_chosen, .ref h_t_tape, .int t_taped, .int t_place, .int t_isWrong, .int t_toldGenus, .int t_toldMarks, .ref h_t_toldPowers, .ref h_t_powerPlaces, .int t_isTree, .int t_toldLeaves, .int t_leavesPlace, .int t_toldSplits, .ref h_t_toldTree, .ref h_t_splitPlaces, .ref h_t_layers, .int t_isWhy, .ref h_t_paper, .int t_papered, .ref h_t_held, .ref h_t_numbers, .ref h_t_sizes, .ref h_t_heldLeaves, .ref h_t_items, .ref h_t_kept, .int t_isKept])), (h_t_rows, .inl (cI, 480, .inl vK2_28_0)), (h_t_powers, .inl (cI, 8, .inl a_t_powers))] H → va_D A [(h_t, .inr (8, [.int t_genus, .int t_marks, .ref h_t_powers, .int t_leaves, .int t_splits, .ref h_t_tree, .ref h_t_ahead, .ref h_t_behind, .ref h_t_before, .int t_done, .int t_undone, .ref h_t_rows, .ref h_t_met, .ref h_t_metSizes, .int t_metMany, .int t_treesSeen, .ref h_t_chosen, .ref h_t_tape, .int t_taped, .int t_place, .int t_isWrong, .int t_toldGenus, .int t_toldMarks, .ref h_t_toldPowers, .ref h_t_powerPlaces, .int t_isTree, .int t_toldLeaves, .int t_leavesPlace, .int t_toldSplits, .ref h_t_toldTree, .ref h_t_splitPlaces, .ref h_t_layers, .int t_isWhy, .ref h_t_paper, .int t_papered, .ref h_t_held, .ref h_t_numbers, .ref h_t_sizes, .ref h_t_heldLeaves, .ref h_t_items, .ref h_t_kept, .int t_isKept])), (h_t_rows, .inl (cI, 480, .inl vK2_28_0)), (h_t_powers, .inl (cI, 8, .inl a_t_powers))] → va_S A s.heap H locs → lv_has ls 2 [(0, .ref h_t)] → K_X9_ruleOf_2_28 t_genus t_marks vK2_28_0 = some (r0, w0) → W p l e (headSpec wsX9_ruleOf ({ frames := 2, cells := 0, slots := 0, locals := 48 })).room s m ([.ref h_t] : List Value).toArray below meth c H locs 0 0 (MQ below (va_Qi (fun r (_ : Unit) => r = r0 ∧ True) (fun _ t => va_P G vwCl [(h_t, .inr (8, [.int t_genus, .int t_marks, .ref h_t_powers, .int t_leaves, .int t_splits, .ref h_t_tree, .ref h_t_ahead, .ref h_t_behind, .ref h_t_before, .int t_done, .int t_undone, .ref h_t_rows, .ref h_t_met, .ref h_t_metSizes, .int t_metMany, .int t_treesSeen, .ref h_t_chosen, .ref h_t_tape, .int t_taped, .int t_place, .int t_isWrong, .int t_toldGenus, .int t_toldMarks, .ref h_t_toldPowers, .ref h_t_powerPlaces, .int t_isTree, .int t_toldLeaves, .int t_leavesPlace, .int t_toldSplits, .ref h_t_toldTree, .ref h_t_splitPlaces, .ref h_t_layers, .int t_isWhy, .ref h_t_paper, .int t_papered, .ref h_t_held, .ref h_t_numbers, .ref h_t_sizes, .ref h_t_heldLeaves, .ref h_t_items, .ref h_t_kept, .int t_isKept])), (h_t_rows, .inl (cI, 480, .inl w0)), (h_t_powers, .inl (cI, 8, .inl a_t_powers))] t.heap) A) ([.ref h_t] : List Value).toArray s 0 0 A) (F0 m 28 ls []) := by
  have hta : ∀ w ∈ wA, w.before ([.ref h_t] : List Value).toArray s = true := hta_of hts
  have hinX9 : ∀ w ∈ wsX90, w ∈ wsX9_ruleOf := hin_of in_X9
  intro vK2_28_0 H locs ls hP hD hS hl h
  unfold K_X9_ruleOf_2_28 at h
  refine lv_aload_n hx hb dX9_ruleOf_28 rfl (lv_at hl 0 rfl) ?_
  refine va_get (D := G) (ci := 8) (v := .int t_genus) (C := RX9) (T := TX9) (N := 42) hx hb hts hinX9 hown hK hP 0 rfl rfl 0 (by decide) (hta _ mw_640) (fun _ h9 => h9) rfl dX9_ruleOf_29 ?_
  refine lv_aload_n hx hb dX9_ruleOf_32 rfl (lv_at hl 0 rfl) ?_
  refine va_get (D := G) (ci := 8) (v := .ref h_t_rows) (C := RX9) (T := TX9) (N := 42) hx hb hts hinX9 hown hK hP 0 rfl rfl 11 (by decide) (hta _ mw_614) (fun _ h9 => h9) rfl dX9_ruleOf_33 ?_
  refine lv_iconst (v := (0 : Int32)) hx hb dX9_ruleOf_36 (by decide) ?_
  refine lv_aload_n hx hb dX9_ruleOf_37 rfl (lv_at hl 0 rfl) ?_
  refine va_get (D := G) (ci := 8) (v := .int t_marks) (C := RX9) (T := TX9) (N := 42) hx hb hts hinX9 hown hK hP 0 rfl rfl 1 (by decide) (hta _ mw_641) (fun _ h9 => h9) rfl dX9_ruleOf_38 ?_
  obtain ⟨x1, hx1, h⟩ := bd_e h
  try dsimp only at h
  refine k_SiU (n := 4) (As := [.int t_genus, .ref h_t_rows, .int (0 : Int32), .int t_marks]) (rest := []) hx hb hml hown hts (c_X9_isNothing l G cI cJ cD cH H.size h_t_rows 480 vK2_28_0 t_genus (0 : Int32) t_marks x1 hx1) gX9_ruleOf_X9_isNothing rfl rfl rfl (by decide +kernel) ⟨by first | exact Nat.le_of_ble_eq_true rfl | (simp only [headSpec]; omega), by first | exact Nat.le_of_ble_eq_true rfl | (simp only [headSpec]; omega)⟩ hK hP hD hS hA [1] (by decide) rfl rfl rfl hl.1 (Nat.le_of_ble_eq_true rfl) dX9_ruleOf_41 ⟨Nat.zero_le _, Nat.zero_le _⟩ (fun hp1 H locs hP hS => ?_)
  refine lv_if_eq (tgt := 49) hx hb dX9_ruleOf_44 (by decide) (fun c2 => ?_) (fun c2 => ?_)
  rotate_left
  · have h := it_n h c2
    refine lv_iconst (v := (0 : Int32)) hx hb dX9_ruleOf_47 (by decide) ?_
    have h9 := Option.some.inj h
    have e9 : (0 : Int32) = r0 := congrArg (fun z9 => z9.1) h9
    rw [← e9]
    have e9 : vK2_28_0 = w0 := congrArg (fun z9 => z9.2) h9
    rw [← e9]
    exact k_iret hx hb hr hlocks hP hS rfl dX9_ruleOf_48
  have h := it_p h c2
  refine lv_aload_n hx hb dX9_ruleOf_49 rfl (lv_at hl 0 rfl) ?_
  refine va_get (D := G) (ci := 8) (v := .int t_genus) (C := RX9) (T := TX9) (N := 42) hx hb hts hinX9 hown hK hP 0 rfl rfl 0 (by decide) (hta _ mw_640) (fun _ h9 => h9) rfl dX9_ruleOf_50 ?_
  refine lv_aload_n hx hb dX9_ruleOf_53 rfl (lv_at hl 0 rfl) ?_
  refine va_get (D := G) (ci := 8) (v := .ref h_t_rows) (C := RX9) (T := TX9) (N := 42) hx hb hts hinX9 hown hK hP 0 rfl rfl 11 (by decide) (hta _ mw_614) (fun _ h9 => h9) rfl dX9_ruleOf_54 ?_
  refine lv_iconst (v := (0 : Int32)) hx hb dX9_ruleOf_57 (by decide) ?_
  refine lv_aload_n hx hb dX9_ruleOf_58 rfl (lv_at hl 0 rfl) ?_
  refine va_get (D := G) (ci := 8) (v := .int t_marks) (C := RX9) (T := TX9) (N := 42) hx hb hts hinX9 hown hK hP 0 rfl rfl 1 (by decide) (hta _ mw_641) (fun _ h9 => h9) rfl dX9_ruleOf_59 ?_
  obtain ⟨x3, hx3, h⟩ := bd_e h
  try dsimp only at h
  refine k_SlU (n := 4) (As := [.int t_genus, .ref h_t_rows, .int (0 : Int32), .int t_marks]) (rest := []) hx hb hml hown hts (c_X9_base l G cI cJ cD cH H.size h_t_rows 480 vK2_28_0 t_genus (0 : Int32) t_marks x3 hx3) gX9_ruleOf_X9_base rfl rfl rfl (by decide +kernel) ⟨by first | exact Nat.le_of_ble_eq_true rfl | (simp only [headSpec]; omega), by first | exact Nat.le_of_ble_eq_true rfl | (simp only [headSpec]; omega)⟩ hK hP hD hS hA [1] (by decide) rfl rfl rfl hl.1 (Nat.le_of_ble_eq_true rfl) dX9_ruleOf_62 ⟨Nat.zero_le _, Nat.zero_le _⟩ (fun hp3 H locs hP hS => ?_)
  refine lv_lconst (v := (0 : Int64)) hx hb dX9_ruleOf_65 (by decide) ?_
  refine W.lcmp hx hb dX9_ruleOf_66 ?_
  refine lv_if_lt (tgt := 74) hx hb dX9_ruleOf_67 (by decide) (fun c4 => ?_) (fun c4 => ?_)
  rotate_left
  · have h := it_n h c4
    refine lv_iconst (v := (1 : Int32)) hx hb dX9_ruleOf_70 (by decide) ?_
    refine lv_goto (tgt := 95) hx hb dX9_ruleOf_71 (by decide) ?_
    have h9 := Option.some.inj h
    have e9 : (1 : Int32) = r0 := congrArg (fun z9 => z9.1) h9
    rw [← e9]
    have e9 : vK2_28_0 = w0 := congrArg (fun z9 => z9.2) h9
    rw [← e9]
    exact k_iret hx hb hr hlocks hP hS rfl dX9_ruleOf_95
  have h := it_p h c4
  refine lv_aload_n hx hb dX9_ruleOf_74 rfl (lv_at hl 0 rfl) ?_
  refine va_get (D := G) (ci := 8) (v := .ref h_t_rows) (C := RX9) (T := TX9) (N := 42) hx hb hts hinX9 hown hK hP 0 rfl rfl 11 (by decide) (hta _ mw_614) (fun _ h9 => h9) rfl dX9_ruleOf_75 ?_
  refine lv_iconst (v := (0 : Int32)) hx hb dX9_ruleOf_78 (by decide) ?_
  refine lv_aload_n hx hb dX9_ruleOf_79 rfl (lv_at hl 0 rfl) ?_
  refine va_get (D := G) (ci := 8) (v := .int t_marks) (C := RX9) (T := TX9) (N := 42) hx hb hts hinX9 hown hK hP 0 rfl rfl 1 (by decide) (hta _ mw_641) (fun _ h9 => h9) rfl dX9_ruleOf_80 ?_
  refine lv_iconst (v := (0 : Int32)) hx hb dX9_ruleOf_83 (by decide) ?_
  obtain ⟨x5, hx5, h⟩ := bd_e h
  try dsimp only at h
  refine k_SiU (n := 4) (As := [.ref h_t_rows, .int (0 : Int32), .int t_marks, .int (0 : Int32)]) (rest := []) hx hb hml hown hts (c_X9_often l G cI cJ cD cH H.size h_t_rows 480 vK2_28_0 (0 : Int32) t_marks (0 : Int32) x5 hx5) gX9_ruleOf_X9_often rfl rfl rfl (by decide +kernel) ⟨by first | exact Nat.le_of_ble_eq_true rfl | (simp only [headSpec]; omega), by first | exact Nat.le_of_ble_eq_true rfl | (simp only [headSpec]; omega)⟩ hK hP hD hS hA [1] (by decide) rfl rfl rfl hl.1 (Nat.le_of_ble_eq_true rfl) dX9_ruleOf_84 ⟨Nat.zero_le _, Nat.zero_le _⟩ (fun hp5 H locs hP hS => ?_)
  refine lv_if_le (tgt := 94) hx hb dX9_ruleOf_87 (by decide) (fun c6 => ?_) (fun c6 => ?_)
  · have h := it_p h c6
    refine lv_iconst (v := (3 : Int32)) hx hb dX9_ruleOf_94 (by decide) ?_
    have h9 := Option.some.inj h
    have e9 : (3 : Int32) = r0 := congrArg (fun z9 => z9.1) h9
    rw [← e9]
    have e9 : vK2_28_0 = w0 := congrArg (fun z9 => z9.2) h9
    rw [← e9]
    exact k_iret hx hb hr hlocks hP hS rfl dX9_ruleOf_95
  have h := it_n h c6
  refine lv_iconst (v := (2 : Int32)) hx hb dX9_ruleOf_90 (by decide) ?_
  refine lv_goto (tgt := 95) hx hb dX9_ruleOf_91 (by decide) ?_
  have h9 := Option.some.inj h
  have e9 : (2 : Int32) = r0 := congrArg (fun z9 => z9.1) h9
  rw [← e9]
  have e9 : vK2_28_0 = w0 := congrArg (fun z9 => z9.2) h9
  rw [← e9]
  exact k_iret hx hb hr hlocks hP hS rfl dX9_ruleOf_95
set_option maxHeartbeats 4000000 in
set_option maxRecDepth 100000 in
theorem c_X9_ruleOf (l : Launch) (G : va_G) (cI cJ cD cH : ClassId) (sz : Nat) (h_t : Nat) (h_t_rows : Nat) (h_t_powers : Nat) (h_t_tree : Nat) (h_t_ahead : Nat) (h_t_behind : Nat) (h_t_before : Nat) (h_t_met : Nat) (h_t_metSizes : Nat) (h_t_chosen : Nat) (h_t_tape : Nat) (h_t_toldPowers : Nat) (h_t_powerPlaces : Nat) (h_t_toldTree : Nat) (h_t_splitPlaces : Nat) (h_t_layers : Nat) (h_t_paper : Nat) (h_t_held : Nat) (h_t_numbers : Nat) (h_t_sizes : Nat) (h_t_heldLeaves : Nat) (h_t_items : Nat) (h_t_kept : Nat) (t_genus : Int32) (t_marks : Int32) (t_leaves : Int32) (t_splits : Int32) (t_done : Int32) (t_undone : Int32) (t_metMany : Int32) (t_treesSeen : Int32) (t_taped : Int32) (t_place : Int32) (t_isWrong : Int32) (t_toldGenus : Int32) (t_toldMarks : Int32) (t_isTree : Int32) (t_toldLeaves : Int32) (t_leavesPlace : Int32) (t_toldSplits : Int32) (t_isWhy : Int32) (t_papered : Int32) (t_isKept : Int32) (a_t_rows : Nat → Int32) (a_t_powers : Nat → Int32) (r0 : Int32) (w0 : Nat → Int32) (hF : F_X9_ruleOf t_genus t_marks a_t_rows a_t_powers = some (r0, w0)) : Met l yX9_ruleOf wsX9_ruleOf ({ frames := 2, cells := 0, slots := 0, locals := 48 }) (k_pre G (k_T cI cJ cD cH) [(h_t, .inr (8, [.int t_genus, .int t_marks, .ref h_t_powers, .int t_leaves, .int t_splits, .ref h_t_tree, .ref h_t_ahead, .ref h_t_behind, .ref h_t_before, .int t_done, .int t_undone, .ref h_t_rows, .ref h_t_met, .ref h_t_metSizes, .int t_metMany, .int t_treesSeen, .ref h_t_chosen, .ref h_t_tape, .int t_taped, .int t_place, .int t_isWrong, .int t_toldGenus, .int t_toldMarks, .ref h_t_toldPowers, .ref h_t_powerPlaces, .int t_isTree, .int t_toldLeaves, .int t_leavesPlace, .int t_toldSplits, .ref h_t_toldTree, .ref h_t_splitPlaces, .ref h_t_layers, .int t_isWhy, .ref h_t_paper, .int t_papered, .ref h_t_held, .ref h_t_numbers, .ref h_t_sizes, .ref h_t_heldLeaves, .ref h_t_items, .ref h_t_kept, .int t_isKept])), (h_t_rows, .inl (cI, 480, .inl a_t_rows)), (h_t_powers, .inl (cI, 8, .inl a_t_powers))] sz [.ref h_t]) (va_Qi (fun r (_ : Unit) => r = r0 ∧ True) (fun _ t => va_P G vwCl [(h_t, .inr (8, [.int t_genus, .int t_marks, .ref h_t_powers, .int t_leaves, .int t_splits, .ref h_t_tree, .ref h_t_ahead, .ref h_t_behind, .ref h_t_before, .int t_done, .int t_undone, .ref h_t_rows, .ref h_t_met, .ref h_t_metSizes, .int t_metMany, .int t_treesSeen, .ref h_t_chosen, .ref h_t_tape, .int t_taped, .int t_place, .int t_isWrong, .int t_toldGenus, .int t_toldMarks, .ref h_t_toldPowers, .ref h_t_powerPlaces, .int t_isTree, .int t_toldLeaves, .int t_leavesPlace, .int t_toldSplits, .ref h_t_toldTree, .ref h_t_splitPlaces, .ref h_t_layers, .int t_isWhy, .ref h_t_paper, .int t_papered, .ref h_t_held, .ref h_t_numbers, .ref h_t_sizes, .ref h_t_heldLeaves, .ref h_t_items, .ref h_t_kept, .int t_isKept])), (h_t_rows, .inl (cI, 480, .inl w0)), (h_t_powers, .inl (cI, 8, .inl a_t_powers))] t.heap) (va_A [(h_t, .inr (8, [.int t_genus, .int t_marks, .ref h_t_powers, .int t_leaves, .int t_splits, .ref h_t_tree, .ref h_t_ahead, .ref h_t_behind, .ref h_t_before, .int t_done, .int t_undone, .ref h_t_rows, .ref h_t_met, .ref h_t_metSizes, .int t_metMany, .int t_treesSeen, .ref h_t_chosen, .ref h_t_tape, .int t_taped, .int t_place, .int t_isWrong, .int t_toldGenus, .int t_toldMarks, .ref h_t_toldPowers, .ref h_t_powerPlaces, .int t_isTree, .int t_toldLeaves, .int t_leavesPlace, .int t_toldSplits, .ref h_t_toldTree, .ref h_t_splitPlaces, .ref h_t_layers, .int t_isWhy, .ref h_t_paper, .int t_papered, .ref h_t_held, .ref h_t_numbers, .ref h_t_sizes, .ref h_t_heldLeaves, .ref h_t_items, .ref h_t_kept, .int t_isKept])), (h_t_rows, .inl (cI, 480, .inl a_t_rows)), (h_t_powers, .inl (cI, 8, .inl a_t_powers))] sz)) 0 0 (va_A [(h_t, .inr (8, [.int t_genus, .int t_marks, .ref h_t_powers, .int t_leaves, .int t_splits, .ref h_t_tree, .ref h_t_ahead, .ref h_t_behind, .ref h_t_before, .int t_done, .int t_undone, .ref h_t_rows, .ref h_t_met, .ref h_t_metSizes, .int t_metMany, .int t_treesSeen, .ref h_t_chosen, .ref h_t_tape, .int t_taped, .int t_place, .int t_isWrong, .int t_toldGenus, .int t_toldMarks, .ref h_t_toldPowers, .ref h_t_powerPlaces, .int t_isTree, .int t_toldLeaves, .int t_leavesPlace, .int t_toldSplits, .ref h_t_toldTree, .ref h_t_splitPlaces, .ref h_t_layers, .int t_isWhy, .ref h_t_paper, .int t_papered, .ref h_t_held, .ref h_t_numbers, .ref h_t_sizes, .ref h_t_heldLeaves, .ref h_t_items, .ref h_t_kept, .int t_isKept])), (h_t_rows, .inl (cI, 480, .inl a_t_rows)), (h_t_powers, .inl (cI, 8, .inl a_t_powers))] sz) := by
  refine Met.ofW (cc := cX9_ruleOf) (maxL := 2) (ret := (some .int)) (by decide) rfl ?_
  intro p e s m args below meth c s₁ B hml hv
  obtain ⟨rfl, hsz, hP, hK, hD0⟩ := hv
  have hx := B.exec
  have hb := B.bytes
  have hr := B.returns
  have hts := atoms_spec (ws := wsX9_ruleOf) B.pre
  have hta : ∀ w ∈ wA, w.before ([.ref h_t] : List Value).toArray s = true := hta_of hts
  have hown : s.vm.findClass RX9 = some m.cls := findClass_of_methodNamed B.named
  have hlocks := B.notSynchronized
  subst hsz
  have hD := hD0.self (sz := s.heap.size)
  generalize hAe : va_A [(h_t, .inr (8, [.int t_genus, .int t_marks, .ref h_t_powers, .int t_leaves, .int t_splits, .ref h_t_tree, .ref h_t_ahead, .ref h_t_behind, .ref h_t_before, .int t_done, .int t_undone, .ref h_t_rows, .ref h_t_met, .ref h_t_metSizes, .int t_metMany, .int t_treesSeen, .ref h_t_chosen, .ref h_t_tape, .int t_taped, .int t_place, .int t_isWrong, .int t_toldGenus, .int t_toldMarks, .ref h_t_toldPowers, .ref h_t_powerPlaces, .int t_isTree, .int t_toldLeaves, .int t_leavesPlace, .int t_toldSplits, .ref h_t_toldTree, .ref h_t_splitPlaces, .ref h_t_layers, .int t_isWhy, .ref h_t_paper, .int t_papered, .ref h_t_held, .ref h_t_numbers, .ref h_t_sizes, .ref h_t_heldLeaves, .ref h_t_items, .ref h_t_kept, .int t_isKept])), (h_t_rows, .inl (cI, 480, .inl a_t_rows)), (h_t_powers, .inl (cI, 8, .inl a_t_powers))] s.heap.size = A at hD ⊢
  have hA : ∀ q : Nat, s.heap.size ≤ q → A q := fun q h => by rw [← hAe]; exact Or.inr h
  have hS : va_S A s.heap s.heap [] := va_S.rf
  have hl := lv_entry ([.ref h_t]) (n := 2) (Nat.le_of_ble_eq_true rfl)
  rw [lg_entry_eq]
  generalize (lg_sl ([.ref h_t]) ++ List.replicate (2 - (lg_sl ([.ref h_t])).length) Slot.unset).toArray = ls at hl ⊢
  have hl : lv_has ls 2 [(0, .ref h_t)] := hl
  have hinX9 : ∀ w ∈ wsX90, w ∈ wsX9_ruleOf := hin_of in_X9
  have h := hF
  unfold F_X9_ruleOf at h
  refine lv_iconst (v := (0 : Int32)) hx hb dX9_ruleOf_0 (by decide) ?_
  refine lv_istore_n (lv' := [(1, .int (0 : Int32)), (0, .ref h_t)]) hx hb dX9_ruleOf_1 rfl hl (by decide) rfl (fun ls hl => ?_)
  have hL2 : ∀ (n2 : Nat) (vL2_0 : Nat → Int32) (vL2_1 : Int32) (H : Heap) (locs : List Loc) (ls : Array Slot), va_P G vwCl [(h_t, .inr (8, [.int t_genus, .int t_marks, .ref h_t_powers, .int t_leaves, .int t_splits, .ref h_t_tree, .ref h_t_ahead, .ref h_t_behind, .ref h_t_before, .int t_done, .int t_undone, .ref h_t_rows, .ref h_t_met, .ref h_t_metSizes, .int t_metMany, .int t_treesSeen, .ref h_t_chosen, .ref h_t_tape, .int t_taped, .int t_place, .int t_isWrong, .int t_toldGenus, .int t_toldMarks, .ref h_t_toldPowers, .ref h_t_powerPlaces, .int t_isTree, .int t_toldLeaves, .int t_leavesPlace, .int t_toldSplits, .ref h_t_toldTree, .ref h_t_splitPlaces, .ref h_t_layers, .int t_isWhy, .ref h_t_paper, .int t_papered, .ref h_t_held, .ref h_t_numbers, .ref h_t_sizes, .ref h_t_heldLeaves, .ref h_t_items, .ref h_t_kept, .int t_isKept])), (h_t_rows, .inl (cI, 480, .inl vL2_0)), (h_t_powers, .inl (cI, 8, .inl a_t_powers))] H → va_D A [(h_t, .inr (8, [.int t_genus, .int t_marks, .ref h_t_powers, .int t_leaves, .int t_splits, .ref h_t_tree, .ref h_t_ahead, .ref h_t_behind, .ref h_t_before, .int t_done, .int t_undone, .ref h_t_rows, .ref h_t_met, .ref h_t_metSizes, .int t_metMany, .int t_treesSeen, .ref h_t_chosen, .ref h_t_tape, .int t_taped, .int t_place, .int t_isWrong, .int t_toldGenus, .int t_toldMarks, .ref h_t_toldPowers, .ref h_t_powerPlaces, .int t_isTree, .int t_toldLeaves, .int t_leavesPlace, .int t_toldSplits, .ref h_t_toldTree, .ref h_t_splitPlaces, .ref h_t_layers, .int t_isWhy, .ref h_t_paper, .int t_papered, .ref h_t_held, .ref h_t_numbers, .ref h_t_sizes, .ref h_t_heldLeaves, .ref h_t_items, .ref h_t_kept, .int t_isKept])), (h_t_rows, .inl (cI, 480, .inl vL2_0)), (h_t_powers, .inl (cI, 8, .inl a_t_powers))] → va_S A s.heap H locs → lv_has ls 2 [(0, .ref h_t), (1, .int vL2_1)] → wq2 (B_X9_ruleOf_2 t_marks a_t_powers (K_X9_ruleOf_2_28 t_genus t_marks)) n2 vL2_0 vL2_1 = some (r0, w0) → W p l e (headSpec wsX9_ruleOf ({ frames := 2, cells := 0, slots := 0, locals := 48 })).room s m ([.ref h_t] : List Value).toArray below meth c H locs 0 0 (MQ below (va_Qi (fun r (_ : Unit) => r = r0 ∧ True) (fun _ t => va_P G vwCl [(h_t, .inr (8, [.int t_genus, .int t_marks, .ref h_t_powers, .int t_leaves, .int t_splits, .ref h_t_tree, .ref h_t_ahead, .ref h_t_behind, .ref h_t_before, .int t_done, .int t_undone, .ref h_t_rows, .ref h_t_met, .ref h_t_metSizes, .int t_metMany, .int t_treesSeen, .ref h_t_chosen, .ref h_t_tape, .int t_taped, .int t_place, .int t_isWrong, .int t_toldGenus, .int t_toldMarks, .ref h_t_toldPowers, .ref h_t_powerPlaces, .int t_isTree, .int t_toldLeaves, .int t_leavesPlace, .int t_toldSplits, .ref h_t_toldTree, .ref h_t_splitPlaces, .ref h_t_layers, .int t_isWhy, .ref h_t_paper, .int t_papered, .ref h_t_held, .ref h_t_numbers, .ref h_t_sizes, .ref h_t_heldLeaves, .ref h_t_items, .ref h_t_kept, .int t_isKept])), (h_t_rows, .inl (cI, 480, .inl w0)), (h_t_powers, .inl (cI, 8, .inl a_t_powers))] t.heap) A) ([.ref h_t] : List Value).toArray s 0 0 A) (F0 m 2 ls []) := by
    intro n2
    induction n2 with
    | zero => intro vL2_0 vL2_1 H locs ls hP hD hS hl h; exact wq2_0 h
    | succ n2 ih2 =>
      intro vL2_0 vL2_1 H locs ls hP hD hS hl h
      have h := wq2_s h
      unfold B_X9_ruleOf_2 at h
      refine lv_iload_n hx hb dX9_ruleOf_2 rfl (lv_at hl 1 rfl) ?_
      refine lv_aload_n hx hb dX9_ruleOf_3 rfl (lv_at hl 0 rfl) ?_
      refine va_get (D := G) (ci := 8) (v := .int t_marks) (C := RX9) (T := TX9) (N := 42) hx hb hts hinX9 hown hK hP 0 rfl rfl 1 (by decide) (hta _ mw_641) (fun _ h9 => h9) rfl dX9_ruleOf_4 ?_
      refine lv_icmp_ge (tgt := 28) hx hb dX9_ruleOf_7 (by decide) (fun c7 => ?_) (fun c7 => ?_)
      · have h := it_p h c7
        exact tK_X9_ruleOf_2_28 hx hb hr hml hts hown hlocks hK hA vL2_0 _ _ _ hP hD hS (lv_sub hl [0] rfl) h
      have h := it_n h c7
      refine lv_aload_n hx hb dX9_ruleOf_10 rfl (lv_at hl 0 rfl) ?_
      refine va_get (D := G) (ci := 8) (v := .ref h_t_rows) (C := RX9) (T := TX9) (N := 42) hx hb hts hinX9 hown hK hP 0 rfl rfl 11 (by decide) (hta _ mw_614) (fun _ h9 => h9) rfl dX9_ruleOf_11 ?_
      refine lv_iload_n hx hb dX9_ruleOf_14 rfl (lv_at hl 1 rfl) ?_
      refine lv_aload_n hx hb dX9_ruleOf_15 rfl (lv_at hl 0 rfl) ?_
      refine va_get (D := G) (ci := 8) (v := .ref h_t_powers) (C := RX9) (T := TX9) (N := 42) hx hb hts hinX9 hown hK hP 0 rfl rfl 2 (by decide) (hta _ mw_608) (fun _ h9 => h9) rfl dX9_ruleOf_16 ?_
      refine lv_iload_n hx hb dX9_ruleOf_19 rfl (lv_at hl 1 rfl) ?_
      obtain ⟨hn8, h⟩ := ck_e h
      refine va_iald hx hb hK hP 2 0 rfl rfl hn8 dX9_ruleOf_20 ?_
      obtain ⟨hn9, h⟩ := ck_e h
      refine va_iast hx hb hK hP hD hS 1 0 rfl rfl hn9 dX9_ruleOf_21 (fun H locs hP hD hS => ?_)
      have hP : va_P G vwCl [(h_t, .inr (8, [.int t_genus, .int t_marks, .ref h_t_powers, .int t_leaves, .int t_splits, .ref h_t_tree, .ref h_t_ahead, .ref h_t_behind, .ref h_t_before, .int t_done, .int t_undone, .ref h_t_rows, .ref h_t_met, .ref h_t_metSizes, .int t_metMany, .int t_treesSeen, .ref h_t_chosen, .ref h_t_tape, .int t_taped, .int t_place, .int t_isWrong, .int t_toldGenus, .int t_toldMarks, .ref h_t_toldPowers, .ref h_t_powerPlaces, .int t_isTree, .int t_toldLeaves, .int t_leavesPlace, .int t_toldSplits, .ref h_t_toldTree, .ref h_t_splitPlaces, .ref h_t_layers, .int t_isWhy, .ref h_t_paper, .int t_papered, .ref h_t_held, .ref h_t_numbers, .ref h_t_sizes, .ref h_t_heldLeaves, .ref h_t_items, .ref h_t_kept, .int t_isKept])), (h_t_rows, .inl (cI, 480, .inl (upd vL2_0 vL2_1.toNatClampNeg (a_t_powers vL2_1.toNatClampNeg)))), (h_t_powers, .inl (cI, 8, .inl a_t_powers))] H := hP
      have hD : va_D A [(h_t, .inr (8, [.int t_genus, .int t_marks, .ref h_t_powers, .int t_leaves, .int t_splits, .ref h_t_tree, .ref h_t_ahead, .ref h_t_behind, .ref h_t_before, .int t_done, .int t_undone, .ref h_t_rows, .ref h_t_met, .ref h_t_metSizes, .int t_metMany, .int t_treesSeen, .ref h_t_chosen, .ref h_t_tape, .int t_taped, .int t_place, .int t_isWrong, .int t_toldGenus, .int t_toldMarks, .ref h_t_toldPowers, .ref h_t_powerPlaces, .int t_isTree, .int t_toldLeaves, .int t_leavesPlace, .int t_toldSplits, .ref h_t_toldTree, .ref h_t_splitPlaces, .ref h_t_layers, .int t_isWhy, .ref h_t_paper, .int t_papered, .ref h_t_held, .ref h_t_numbers, .ref h_t_sizes, .ref h_t_heldLeaves, .ref h_t_items, .ref h_t_kept, .int t_isKept])), (h_t_rows, .inl (cI, 480, .inl (upd vL2_0 vL2_1.toNatClampNeg (a_t_powers vL2_1.toNatClampNeg)))), (h_t_powers, .inl (cI, 8, .inl a_t_powers))] := hD
      refine lv_iinc (v := (vL2_1 + (1 : Int32))) (lv' := [(1, .int (vL2_1 + (1 : Int32))), (0, .ref h_t)]) hx hb dX9_ruleOf_22 hl (k := 1) rfl (by first | rfl | decide) (by decide) rfl (fun ls hl => ?_)
      refine lv_goto (tgt := 2) hx hb dX9_ruleOf_25 (by decide) ?_
      exact ih2 (upd vL2_0 vL2_1.toNatClampNeg (a_t_powers vL2_1.toNatClampNeg)) (vL2_1 + (1 : Int32)) _ _ _ hP hD hS (lv_sub hl [1, 0] rfl) h
  exact hL2 FU a_t_rows (0 : Int32) _ _ _ hP hD hS (lv_sub hl [1, 0] rfl) h

/-! X9_rule -/
set_option maxHeartbeats 4000000 in
set_option maxRecDepth 100000 in
theorem c_X9_rule (l : Launch) (G : va_G) (cI cJ cD cH : ClassId) (sz : Nat) (h_t : Nat) (h_t_rows : Nat) (h_t_powers : Nat) (h_t_tree : Nat) (h_t_ahead : Nat) (h_t_behind : Nat) (h_t_before : Nat) (h_t_met : Nat) (h_t_metSizes : Nat) (h_t_chosen : Nat) (h_t_tape : Nat) (h_t_toldPowers : Nat) (h_t_powerPlaces : Nat) (h_t_toldTree : Nat) (h_t_splitPlaces : Nat) (h_t_layers : Nat) (h_t_paper : Nat) (h_t_held : Nat) (h_t_numbers : Nat) (h_t_sizes : Nat) (h_t_heldLeaves : Nat) (h_t_items : Nat) (h_t_kept : Nat) (t_genus : Int32) (t_marks : Int32) (t_leaves : Int32) (t_splits : Int32) (t_done : Int32) (t_undone : Int32) (t_metMany : Int32) (t_treesSeen : Int32) (t_taped : Int32) (t_place : Int32) (t_isWrong : Int32) (t_toldGenus : Int32) (t_toldMarks : Int32) (t_isTree : Int32) (t_toldLeaves : Int32) (t_leavesPlace : Int32) (t_toldSplits : Int32) (t_isWhy : Int32) (t_papered : Int32) (t_isKept : Int32) (a_t_rows : Nat → Int32) (a_t_powers : Nat → Int32) (r0 : Int32) (w0 : Nat → Int32) (hF : F_X9_rule t_genus t_marks a_t_rows a_t_powers = some (r0, w0)) : Met l yX9_rule wsX9_rule ({ frames := 3, cells := 0, slots := 0, locals := 69 }) (k_pre G (k_T cI cJ cD cH) [(h_t, .inr (8, [.int t_genus, .int t_marks, .ref h_t_powers, .int t_leaves, .int t_splits, .ref h_t_tree, .ref h_t_ahead, .ref h_t_behind, .ref h_t_before, .int t_done, .int t_undone, .ref h_t_rows, .ref h_t_met, .ref h_t_metSizes, .int t_metMany, .int t_treesSeen, .ref h_t_chosen, .ref h_t_tape, .int t_taped, .int t_place, .int t_isWrong, .int t_toldGenus, .int t_toldMarks, .ref h_t_toldPowers, .ref h_t_powerPlaces, .int t_isTree, .int t_toldLeaves, .int t_leavesPlace, .int t_toldSplits, .ref h_t_toldTree, .ref h_t_splitPlaces, .ref h_t_layers, .int t_isWhy, .ref h_t_paper, .int t_papered, .ref h_t_held, .ref h_t_numbers, .ref h_t_sizes, .ref h_t_heldLeaves, .ref h_t_items, .ref h_t_kept, .int t_isKept])), (h_t_rows, .inl (cI, 480, .inl a_t_rows)), (h_t_powers, .inl (cI, 8, .inl a_t_powers))] sz [.ref h_t]) (va_Qi (fun r (_ : Unit) => r = r0 ∧ True) (fun _ t => va_P G vwCl [(h_t, .inr (8, [.int t_genus, .int t_marks, .ref h_t_powers, .int t_leaves, .int t_splits, .ref h_t_tree, .ref h_t_ahead, .ref h_t_behind, .ref h_t_before, .int t_done, .int t_undone, .ref h_t_rows, .ref h_t_met, .ref h_t_metSizes, .int t_metMany, .int t_treesSeen, .ref h_t_chosen, .ref h_t_tape, .int t_taped, .int t_place, .int t_isWrong, .int t_toldGenus, .int t_toldMarks, .ref h_t_toldPowers, .ref h_t_powerPlaces, .int t_isTree, .int t_toldLeaves, .int t_leavesPlace, .int t_toldSplits, .ref h_t_toldTree, .ref h_t_splitPlaces, .ref h_t_layers, .int t_isWhy, .ref h_t_paper, .int t_papered, .ref h_t_held, .ref h_t_numbers, .ref h_t_sizes, .ref h_t_heldLeaves, .ref h_t_items, .ref h_t_kept, .int t_isKept])), (h_t_rows, .inl (cI, 480, .inl w0)), (h_t_powers, .inl (cI, 8, .inl a_t_powers))] t.heap) (va_A [(h_t, .inr (8, [.int t_genus, .int t_marks, .ref h_t_powers, .int t_leaves, .int t_splits, .ref h_t_tree, .ref h_t_ahead, .ref h_t_behind, .ref h_t_before, .int t_done, .int t_undone, .ref h_t_rows, .ref h_t_met, .ref h_t_metSizes, .int t_metMany, .int t_treesSeen, .ref h_t_chosen, .ref h_t_tape, .int t_taped, .int t_place, .int t_isWrong, .int t_toldGenus, .int t_toldMarks, .ref h_t_toldPowers, .ref h_t_powerPlaces, .int t_isTree, .int t_toldLeaves, .int t_leavesPlace, .int t_toldSplits, .ref h_t_toldTree, .ref h_t_splitPlaces, .ref h_t_layers, .int t_isWhy, .ref h_t_paper, .int t_papered, .ref h_t_held, .ref h_t_numbers, .ref h_t_sizes, .ref h_t_heldLeaves, .ref h_t_items, .ref h_t_kept, .int t_isKept])), (h_t_rows, .inl (cI, 480, .inl a_t_rows)), (h_t_powers, .inl (cI, 8, .inl a_t_powers))] sz)) 0 0 (va_A [(h_t, .inr (8, [.int t_genus, .int t_marks, .ref h_t_powers, .int t_leaves, .int t_splits, .ref h_t_tree, .ref h_t_ahead, .ref h_t_behind, .ref h_t_before, .int t_done, .int t_undone, .ref h_t_rows, .ref h_t_met, .ref h_t_metSizes, .int t_metMany, .int t_treesSeen, .ref h_t_chosen, .ref h_t_tape, .int t_taped, .int t_place, .int t_isWrong, .int t_toldGenus, .int t_toldMarks, .ref h_t_toldPowers, .ref h_t_powerPlaces, .int t_isTree, .int t_toldLeaves, .int t_leavesPlace, .int t_toldSplits, .ref h_t_toldTree, .ref h_t_splitPlaces, .ref h_t_layers, .int t_isWhy, .ref h_t_paper, .int t_papered, .ref h_t_held, .ref h_t_numbers, .ref h_t_sizes, .ref h_t_heldLeaves, .ref h_t_items, .ref h_t_kept, .int t_isKept])), (h_t_rows, .inl (cI, 480, .inl a_t_rows)), (h_t_powers, .inl (cI, 8, .inl a_t_powers))] sz) := by
  refine Met.ofW (cc := cX9_rule) (maxL := 1) (ret := (some .int)) (by decide) rfl ?_
  intro p e s m args below meth c s₁ B hml hv
  obtain ⟨rfl, hsz, hP, hK, hD0⟩ := hv
  have hx := B.exec
  have hb := B.bytes
  have hr := B.returns
  have hts := atoms_spec (ws := wsX9_rule) B.pre
  have hta : ∀ w ∈ wA, w.before ([.ref h_t] : List Value).toArray s = true := hta_of hts
  have hown : s.vm.findClass RX9 = some m.cls := findClass_of_methodNamed B.named
  have hlocks := B.notSynchronized
  subst hsz
  have hD := hD0.self (sz := s.heap.size)
  generalize hAe : va_A [(h_t, .inr (8, [.int t_genus, .int t_marks, .ref h_t_powers, .int t_leaves, .int t_splits, .ref h_t_tree, .ref h_t_ahead, .ref h_t_behind, .ref h_t_before, .int t_done, .int t_undone, .ref h_t_rows, .ref h_t_met, .ref h_t_metSizes, .int t_metMany, .int t_treesSeen, .ref h_t_chosen, .ref h_t_tape, .int t_taped, .int t_place, .int t_isWrong, .int t_toldGenus, .int t_toldMarks, .ref h_t_toldPowers, .ref h_t_powerPlaces, .int t_isTree, .int t_toldLeaves, .int t_leavesPlace, .int t_toldSplits, .ref h_t_toldTree, .ref h_t_splitPlaces, .ref h_t_layers, .int t_isWhy, .ref h_t_paper, .int t_papered, .ref h_t_held, .ref h_t_numbers, .ref h_t_sizes, .ref h_t_heldLeaves, .ref h_t_items, .ref h_t_kept, .int t_isKept])), (h_t_rows, .inl (cI, 480, .inl a_t_rows)), (h_t_powers, .inl (cI, 8, .inl a_t_powers))] s.heap.size = A at hD ⊢
  have hA : ∀ q : Nat, s.heap.size ≤ q → A q := fun q h => by rw [← hAe]; exact Or.inr h
  have hS : va_S A s.heap s.heap [] := va_S.rf
  have hl := lv_entry ([.ref h_t]) (n := 1) (Nat.le_of_ble_eq_true rfl)
  rw [lg_entry_eq]
  generalize (lg_sl ([.ref h_t]) ++ List.replicate (1 - (lg_sl ([.ref h_t])).length) Slot.unset).toArray = ls at hl ⊢
  have hl : lv_has ls 1 [(0, .ref h_t)] := hl
  have h := hF
  unfold F_X9_rule at h
  refine lv_aload_n hx hb dX9_rule_0 rfl (lv_at hl 0 rfl) ?_
  obtain ⟨x1, hx1, h⟩ := bd_e h
  try dsimp only at h
  refine k_ViM (n := 0) (As := []) (rest := []) hx hb hml hown hts (c_X9_ruleOf l G cI cJ cD cH s.heap.size h_t h_t_rows h_t_powers h_t_tree h_t_ahead h_t_behind h_t_before h_t_met h_t_metSizes h_t_chosen h_t_tape h_t_toldPowers h_t_powerPlaces h_t_toldTree h_t_splitPlaces h_t_layers h_t_paper h_t_held h_t_numbers h_t_sizes h_t_heldLeaves h_t_items h_t_kept t_genus t_marks t_leaves t_splits t_done t_undone t_metMany t_treesSeen t_taped t_place t_isWrong t_toldGenus t_toldMarks t_isTree t_toldLeaves t_leavesPlace t_toldSplits t_isWhy t_papered t_isKept a_t_rows a_t_powers (x1.1) (x1.2) hx1) gX9_rule_X9_ruleOf rfl rfl rfl (by decide +kernel) ⟨by first | exact Nat.le_of_ble_eq_true rfl | (simp only [headSpec]; omega), by first | exact Nat.le_of_ble_eq_true rfl | (simp only [headSpec]; omega)⟩ hK hP hD hS hA [0, 1, 2] (by decide) rfl rfl (ci := 8) rfl rfl rfl rfl rfl hl.1 (Nat.le_of_ble_eq_true rfl) dX9_rule_1 ⟨Nat.zero_le _, Nat.zero_le _⟩ [(h_t, .inr (8, [.int t_genus, .int t_marks, .ref h_t_powers, .int t_leaves, .int t_splits, .ref h_t_tree, .ref h_t_ahead, .ref h_t_behind, .ref h_t_before, .int t_done, .int t_undone, .ref h_t_rows, .ref h_t_met, .ref h_t_metSizes, .int t_metMany, .int t_treesSeen, .ref h_t_chosen, .ref h_t_tape, .int t_taped, .int t_place, .int t_isWrong, .int t_toldGenus, .int t_toldMarks, .ref h_t_toldPowers, .ref h_t_powerPlaces, .int t_isTree, .int t_toldLeaves, .int t_leavesPlace, .int t_toldSplits, .ref h_t_toldTree, .ref h_t_splitPlaces, .ref h_t_layers, .int t_isWhy, .ref h_t_paper, .int t_papered, .ref h_t_held, .ref h_t_numbers, .ref h_t_sizes, .ref h_t_heldLeaves, .ref h_t_items, .ref h_t_kept, .int t_isKept])), (h_t_rows, .inl (cI, 480, .inl (x1.2))), (h_t_powers, .inl (cI, 8, .inl a_t_powers))] [1, 2, 3] 3 (by decide +kernel) rfl rfl rfl (fun hp1 H locs hP hD hS => ?_)
  have h9 := Option.some.inj h
  have e9 : (x1.1) = r0 := congrArg (fun z9 => z9.1) h9
  rw [← e9]
  have e9 : (x1.2) = w0 := congrArg (fun z9 => z9.2) h9
  rw [← e9]
  exact k_iret hx hb hr hlocks hP hS rfl dX9_rule_4

/-! X9_meets -/
set_option maxHeartbeats 4000000 in
set_option maxRecDepth 100000 in
theorem tK_X9_meets_96_184 {l : Launch} {G : va_G} {cI cJ cD cH : ClassId} {h_t : Nat} {h_t_met : Nat} {h_t_metSizes : Nat} {h_t_powers : Nat} {h_t_tree : Nat} {h_t_ahead : Nat} {h_t_behind : Nat} {h_t_before : Nat} {h_t_rows : Nat} {h_t_chosen : Nat} {h_t_tape : Nat} {h_t_toldPowers : Nat} {h_t_powerPlaces : Nat} {h_t_toldTree : Nat} {h_t_splitPlaces : Nat} {h_t_layers : Nat} {h_t_paper : Nat} {h_t_held : Nat} {h_t_numbers : Nat} {h_t_sizes : Nat} {h_t_heldLeaves : Nat} {h_t_items : Nat} {h_t_kept : Nat} {t_genus : Int32} {t_marks : Int32} {t_leaves : Int32} {t_splits : Int32} {t_done : Int32} {t_undone : Int32} {t_metMany : Int32} {t_treesSeen : Int32} {t_taped : Int32} {t_place : Int32} {t_isWrong : Int32} {t_toldGenus : Int32} {t_toldMarks : Int32} {t_isTree : Int32} {t_toldLeaves : Int32} {t_leavesPlace : Int32} {t_toldSplits : Int32} {t_isWhy : Int32} {t_papered : Int32} {t_isKept : Int32} {a_t_metSizes : Nat → Int32} {p0 : Int32} {p1 : Int32} {w0 : Nat → Int32} {w1 : Nat → Int32} {w2 : Int32} {vK2_94_0 : Nat → Int32} {p : Program} {e : Env} {s : State} {m : MethodId} {below : List Frame} {meth : Method} {c : Code} {A : Nat → Prop} (hx : p.tables.exec = Jvm.exec) (hb : c.code = cX9_meets) (hr : meth.sig.returnType = none) (hml : c.maxLocals = 6) (hts : ∀ w ∈ wsX9_meets, w.before ([.ref h_t, .int p0, .int p1] : List Value).toArray s = true) (hown : s.vm.findClass RX9 = some m.cls) (hlocks : meth.locks = false) (hK : va_K G vwCl (k_T cI cJ cD cH) s) (hA : ∀ q : Nat, s.heap.size ≤ q → A q) : ∀ (H : Heap) (locs : List Loc) (ls : Array Slot), va_P G vwCl [(h_t, .inr (8, [.int t_genus, .int t_marks, .ref h_t_powers, .int t_leaves, .int t_splits, .ref h_t_tree, .ref h_t_ahead, .ref h_t_behind, .ref h_t_before, .int t_done, .int t_undone, .ref h_t_rows, .ref h_t_met, .ref h_t_metSizes, .int t_metMany, .int t_treesSeen, .ref h_t_chosen, .ref h_t_tape, .int t_taped, .int t_place, .int t_isWrong, .int t_toldGenus, .int t_toldMarks, .ref h_t_toldPowers, .ref h_t_powerPlaces, .int t_isTree, .int t_toldLeaves, .int t_leavesPlace, .int t_toldSplits, .ref h_t_toldTree, .ref h_t_splitPlaces, .ref h_t_layers, .int t_isWhy, .ref h_t_paper, .int t_papered, .ref h_t_held, .ref h_t_numbers, .ref h_t_sizes, .ref h_t_heldLeaves, .ref h_t_items, .ref h_t_kept, .int t_isKept])), (h_t_met, .inl (cI, 36000, .inl vK2_94_0)), (h_t_metSizes, .inl (cI, 3000, .inl a_t_metSizes))] H → va_D A [(h_t, .inr (8, [.int t_genus, .int t_marks, .ref h_t_powers, .int t_leaves, .int t_splits, .ref h_t_tree, .ref h_t_ahead, .ref h_t_behind, .ref h_t_before, .int t_done, .int t_undone, .ref h_t_rows, .ref h_t_met, .ref h_t_metSizes, .int t_metMany, .int t_treesSeen, .ref h_t_chosen, .ref h_t_tape, .int t_taped, .int t_place, .int t_isWrong, .int t_toldGenus, .int t_toldMarks, .ref h_t_toldPowers, .ref h_t_powerPlaces, .int t_isTree, .int t_toldLeaves, .int t_leavesPlace, .int t_toldSplits, .ref h_t_toldTree, .ref h_t_splitPlaces, .ref h_t_layers, .int t_isWhy, .ref h_t_paper, .int t_papered, .ref h_t_held, .ref h_t_numbers, .ref h_t_sizes, .ref h_t_heldLeaves, .ref h_t_items, .ref h_t_kept, .int t_isKept])), (h_t_met, .inl (cI, 36000, .inl vK2_94_0)), (h_t_metSizes, .inl (cI, 3000, .inl a_t_metSizes))] → va_S A s.heap H locs → lv_has ls 6 [(0, .ref h_t), (2, .int p1)] → K_X9_meets_96_184 t_metMany a_t_metSizes p1 vK2_94_0 = some (w0, w1, w2) → W p l e (headSpec wsX9_meets ({ frames := 0, cells := 0, slots := 0, locals := 0 })).room s m ([.ref h_t, .int p0, .int p1] : List Value).toArray below meth c H locs 0 0 (MQ below (va_Qv (fun (_ : Unit) => True) (fun _ t => va_P G vwCl [(h_t, .inr (8, [.int t_genus, .int t_marks, .ref h_t_powers, .int t_leaves, .int t_splits, .ref h_t_tree, .ref h_t_ahead, .ref h_t_behind, .ref h_t_before, .int t_done, .int t_undone, .ref h_t_rows, .ref h_t_met, .ref h_t_metSizes, .int w2, .int t_treesSeen, .ref h_t_chosen, .ref h_t_tape, .int t_taped, .int t_place, .int t_isWrong, .int t_toldGenus, .int t_toldMarks, .ref h_t_toldPowers, .ref h_t_powerPlaces, .int t_isTree, .int t_toldLeaves, .int t_leavesPlace, .int t_toldSplits, .ref h_t_toldTree, .ref h_t_splitPlaces, .ref h_t_layers, .int t_isWhy, .ref h_t_paper, .int t_papered, .ref h_t_held, .ref h_t_numbers, .ref h_t_sizes, .ref h_t_heldLeaves, .ref h_t_items, .ref h_t_kept, .int t_isKept])), (h_t_met, .inl (cI, 36000, .inl w0)), (h_t_metSizes, .inl (cI, 3000, .inl w1))] t.heap) A) ([.ref h_t, .int p0, .int p1] : List Value).toArray s 0 0 A) (F0 m 184 ls []) := by
  have hta : ∀ w ∈ wA, w.before ([.ref h_t, .int p0, .int p1] : List Value).toArray s = true := hta_of hts
  have hinX9 : ∀ w ∈ wsX90, w ∈ wsX9_meets := hin_of in_X9
  intro  H locs ls hP hD hS hl h
  unfold K_X9_meets_96_184 at h
  refine lv_aload_n hx hb dX9_meets_184 rfl (lv_at hl 0 rfl) ?_
  refine va_get (D := G) (ci := 8) (v := .ref h_t_metSizes) (C := RX9) (T := TX9) (N := 42) hx hb hts hinX9 hown hK hP 0 rfl rfl 13 (by decide) (hta _ mw_617) (fun _ h9 => h9) rfl dX9_meets_185 ?_
  refine lv_aload_n hx hb dX9_meets_188 rfl (lv_at hl 0 rfl) ?_
  refine va_get (D := G) (ci := 8) (v := .int t_metMany) (C := RX9) (T := TX9) (N := 42) hx hb hts hinX9 hown hK hP 0 rfl rfl 14 (by decide) (hta _ mw_723) (fun _ h9 => h9) rfl dX9_meets_189 ?_
  refine lv_iload_n hx hb dX9_meets_192 rfl (lv_at hl 1 rfl) ?_
  obtain ⟨hn1, h⟩ := ck_e h
  refine va_iast hx hb hK hP hD hS 2 0 rfl rfl hn1 dX9_meets_193 (fun H locs hP hD hS => ?_)
  have hP : va_P G vwCl [(h_t, .inr (8, [.int t_genus, .int t_marks, .ref h_t_powers, .int t_leaves, .int t_splits, .ref h_t_tree, .ref h_t_ahead, .ref h_t_behind, .ref h_t_before, .int t_done, .int t_undone, .ref h_t_rows, .ref h_t_met, .ref h_t_metSizes, .int t_metMany, .int t_treesSeen, .ref h_t_chosen, .ref h_t_tape, .int t_taped, .int t_place, .int t_isWrong, .int t_toldGenus, .int t_toldMarks, .ref h_t_toldPowers, .ref h_t_powerPlaces, .int t_isTree, .int t_toldLeaves, .int t_leavesPlace, .int t_toldSplits, .ref h_t_toldTree, .ref h_t_splitPlaces, .ref h_t_layers, .int t_isWhy, .ref h_t_paper, .int t_papered, .ref h_t_held, .ref h_t_numbers, .ref h_t_sizes, .ref h_t_heldLeaves, .ref h_t_items, .ref h_t_kept, .int t_isKept])), (h_t_met, .inl (cI, 36000, .inl vK2_94_0)), (h_t_metSizes, .inl (cI, 3000, .inl (upd a_t_metSizes t_metMany.toNatClampNeg p1)))] H := hP
  have hD : va_D A [(h_t, .inr (8, [.int t_genus, .int t_marks, .ref h_t_powers, .int t_leaves, .int t_splits, .ref h_t_tree, .ref h_t_ahead, .ref h_t_behind, .ref h_t_before, .int t_done, .int t_undone, .ref h_t_rows, .ref h_t_met, .ref h_t_metSizes, .int t_metMany, .int t_treesSeen, .ref h_t_chosen, .ref h_t_tape, .int t_taped, .int t_place, .int t_isWrong, .int t_toldGenus, .int t_toldMarks, .ref h_t_toldPowers, .ref h_t_powerPlaces, .int t_isTree, .int t_toldLeaves, .int t_leavesPlace, .int t_toldSplits, .ref h_t_toldTree, .ref h_t_splitPlaces, .ref h_t_layers, .int t_isWhy, .ref h_t_paper, .int t_papered, .ref h_t_held, .ref h_t_numbers, .ref h_t_sizes, .ref h_t_heldLeaves, .ref h_t_items, .ref h_t_kept, .int t_isKept])), (h_t_met, .inl (cI, 36000, .inl vK2_94_0)), (h_t_metSizes, .inl (cI, 3000, .inl (upd a_t_metSizes t_metMany.toNatClampNeg p1)))] := hD
  refine lv_aload_n hx hb dX9_meets_194 rfl (lv_at hl 0 rfl) ?_
  refine lv_dup hx hb dX9_meets_195 rfl ?_
  refine va_get (D := G) (ci := 8) (v := .int t_metMany) (C := RX9) (T := TX9) (N := 42) hx hb hts hinX9 hown hK hP 0 rfl rfl 14 (by decide) (hta _ mw_723) (fun _ h9 => h9) rfl dX9_meets_196 ?_
  refine lv_iconst (v := (1 : Int32)) hx hb dX9_meets_199 (by decide) ?_
  refine lv_iadd hx hb dX9_meets_200 ?_
  refine va_put (D := G) (ci := 8) (v := .int (t_metMany + (1 : Int32))) (ty := .int) (C := RX9) (T := TX9) (N := 42) hx hb hts hinX9 tyX9 tyX9_ok nmX9 hown hK hP hD hS 0 rfl rfl 14 (by decide) (hta _ mw_723) (fun _ h9 => h9) rfl (by decide +kernel) rfl rfl (Nat.le_of_ble_eq_true rfl) dX9_meets_201 (fun H locs hP hD hS => ?_)
  have hP : va_P G vwCl [(h_t, .inr (8, [.int t_genus, .int t_marks, .ref h_t_powers, .int t_leaves, .int t_splits, .ref h_t_tree, .ref h_t_ahead, .ref h_t_behind, .ref h_t_before, .int t_done, .int t_undone, .ref h_t_rows, .ref h_t_met, .ref h_t_metSizes, .int (t_metMany + (1 : Int32)), .int t_treesSeen, .ref h_t_chosen, .ref h_t_tape, .int t_taped, .int t_place, .int t_isWrong, .int t_toldGenus, .int t_toldMarks, .ref h_t_toldPowers, .ref h_t_powerPlaces, .int t_isTree, .int t_toldLeaves, .int t_leavesPlace, .int t_toldSplits, .ref h_t_toldTree, .ref h_t_splitPlaces, .ref h_t_layers, .int t_isWhy, .ref h_t_paper, .int t_papered, .ref h_t_held, .ref h_t_numbers, .ref h_t_sizes, .ref h_t_heldLeaves, .ref h_t_items, .ref h_t_kept, .int t_isKept])), (h_t_met, .inl (cI, 36000, .inl vK2_94_0)), (h_t_metSizes, .inl (cI, 3000, .inl (upd a_t_metSizes t_metMany.toNatClampNeg p1)))] H := hP
  have hD : va_D A [(h_t, .inr (8, [.int t_genus, .int t_marks, .ref h_t_powers, .int t_leaves, .int t_splits, .ref h_t_tree, .ref h_t_ahead, .ref h_t_behind, .ref h_t_before, .int t_done, .int t_undone, .ref h_t_rows, .ref h_t_met, .ref h_t_metSizes, .int (t_metMany + (1 : Int32)), .int t_treesSeen, .ref h_t_chosen, .ref h_t_tape, .int t_taped, .int t_place, .int t_isWrong, .int t_toldGenus, .int t_toldMarks, .ref h_t_toldPowers, .ref h_t_powerPlaces, .int t_isTree, .int t_toldLeaves, .int t_leavesPlace, .int t_toldSplits, .ref h_t_toldTree, .ref h_t_splitPlaces, .ref h_t_layers, .int t_isWhy, .ref h_t_paper, .int t_papered, .ref h_t_held, .ref h_t_numbers, .ref h_t_sizes, .ref h_t_heldLeaves, .ref h_t_items, .ref h_t_kept, .int t_isKept])), (h_t_met, .inl (cI, 36000, .inl vK2_94_0)), (h_t_metSizes, .inl (cI, 3000, .inl (upd a_t_metSizes t_metMany.toNatClampNeg p1)))] := hD
  have h9 := Option.some.inj h
  have e9 : vK2_94_0 = w0 := congrArg (fun z9 => z9.1) h9
  rw [← e9]
  have e9 : (upd a_t_metSizes t_metMany.toNatClampNeg p1) = w1 := congrArg (fun z9 => z9.2.1) h9
  rw [← e9]
  have e9 : (t_metMany + (1 : Int32)) = w2 := congrArg (fun z9 => z9.2.2) h9
  rw [← e9]
  exact k_vret hx hb hr hlocks hP hS dX9_meets_204
set_option maxHeartbeats 4000000 in
set_option maxRecDepth 100000 in
theorem tK_X9_meets_2_94 {l : Launch} {G : va_G} {cI cJ cD cH : ClassId} {h_t : Nat} {h_t_met : Nat} {h_t_metSizes : Nat} {h_t_powers : Nat} {h_t_tree : Nat} {h_t_ahead : Nat} {h_t_behind : Nat} {h_t_before : Nat} {h_t_rows : Nat} {h_t_chosen : Nat} {h_t_tape : Nat} {h_t_toldPowers : Nat} {h_t_powerPlaces : Nat} {h_t_toldTree : Nat} {h_t_splitPlaces : Nat} {h_t_layers : Nat} {h_t_paper : Nat} {h_t_held : Nat} {h_t_numbers : Nat} {h_t_sizes : Nat} {h_t_heldLeaves : Nat} {h_t_items : Nat} {h_t_kept : Nat} {t_genus : Int32} {t_marks : Int32} {t_leaves : Int32} {t_splits : Int32} {t_done : Int32} {t_undone : Int32} {t_metMany : Int32} {t_treesSeen : Int32} {t_taped : Int32} {t_place : Int32} {t_isWrong : Int32} {t_toldGenus : Int32} {t_toldMarks : Int32} {t_isTree : Int32} {t_toldLeaves : Int32} {t_leavesPlace : Int32} {t_toldSplits : Int32} {t_isWhy : Int32} {t_papered : Int32} {t_isKept : Int32} {a_t_metSizes : Nat → Int32} {p0 : Int32} {p1 : Int32} {w0 : Nat → Int32} {w1 : Nat → Int32} {w2 : Int32} {p : Program} {e : Env} {s : State} {m : MethodId} {below : List Frame} {meth : Method} {c : Code} {A : Nat → Prop} (hx : p.tables.exec = Jvm.exec) (hb : c.code = cX9_meets) (hr : meth.sig.returnType = none) (hml : c.maxLocals = 6) (hts : ∀ w ∈ wsX9_meets, w.before ([.ref h_t, .int p0, .int p1] : List Value).toArray s = true) (hown : s.vm.findClass RX9 = some m.cls) (hlocks : meth.locks = false) (hK : va_K G vwCl (k_T cI cJ cD cH) s) (hA : ∀ q : Nat, s.heap.size ≤ q → A q) : ∀  (vK2_94_0 : Nat → Int32) (H : Heap) (locs : List Loc) (ls : Array Slot), va_P G vwCl [(h_t, .inr (8, [.int t_genus, .int t_marks, .ref h_t_powers, .int t_leaves, .int t_splits, .ref h_t_tree, .ref h_t_ahead, .ref h_t_behind, .ref h_t_before, .int t_done, .int t_undone, .ref h_t_rows, .ref h_t_met, .ref h_t_metSizes, .int t_metMany, .int t_treesSeen, .ref h_t_chosen, .ref h_t_tape, .int t_taped, .int t_place, .int t_isWrong, .int t_toldGenus, .int t_toldMarks, .ref h_t_toldPowers, .ref h_t_powerPlaces, .int t_isTree, .int t_toldLeaves, .int t_leavesPlace, .int t_toldSplits, .ref h_t_toldTree, .ref h_t_splitPlaces, .ref h_t_layers, .int t_isWhy, .ref h_t_paper, .int t_papered, .ref h_t_held, .ref h_t_numbers, .ref h_t_sizes, .ref h_t_heldLeaves, .ref h_t_items, .ref h_t_kept, .int t_isKept])), (h_t_met, .inl (cI, 36000, .inl vK2_94_0)), (h_t_metSizes, .inl (cI, 3000, .inl a_t_metSizes))] H → va_D A [(h_t, .inr (8, [.int t_genus, .int t_marks, .ref h_t_powers, .int t_leaves, .int t_splits, .ref h_t_tree, .ref h_t_ahead, .ref h_t_behind, .ref h_t_before, .int t_done, .int t_undone, .ref h_t_rows, .ref h_t_met, .ref h_t_metSizes, .int t_metMany, .int t_treesSeen, .ref h_t_chosen, .ref h_t_tape, .int t_taped, .int t_place, .int t_isWrong, .int t_toldGenus, .int t_toldMarks, .ref h_t_toldPowers, .ref h_t_powerPlaces, .int t_isTree, .int t_toldLeaves, .int t_leavesPlace, .int t_toldSplits, .ref h_t_toldTree, .ref h_t_splitPlaces, .ref h_t_layers, .int t_isWhy, .ref h_t_paper, .int t_papered, .ref h_t_held, .ref h_t_numbers, .ref h_t_sizes, .ref h_t_heldLeaves, .ref h_t_items, .ref h_t_kept, .int t_isKept])), (h_t_met, .inl (cI, 36000, .inl vK2_94_0)), (h_t_metSizes, .inl (cI, 3000, .inl a_t_metSizes))] → va_S A s.heap H locs → lv_has ls 6 [(0, .ref h_t), (1, .int p0), (2, .int p1)] → K_X9_meets_2_94 t_metMany a_t_metSizes p0 p1 vK2_94_0 = some (w0, w1, w2) → W p l e (headSpec wsX9_meets ({ frames := 0, cells := 0, slots := 0, locals := 0 })).room s m ([.ref h_t, .int p0, .int p1] : List Value).toArray below meth c H locs 0 0 (MQ below (va_Qv (fun (_ : Unit) => True) (fun _ t => va_P G vwCl [(h_t, .inr (8, [.int t_genus, .int t_marks, .ref h_t_powers, .int t_leaves, .int t_splits, .ref h_t_tree, .ref h_t_ahead, .ref h_t_behind, .ref h_t_before, .int t_done, .int t_undone, .ref h_t_rows, .ref h_t_met, .ref h_t_metSizes, .int w2, .int t_treesSeen, .ref h_t_chosen, .ref h_t_tape, .int t_taped, .int t_place, .int t_isWrong, .int t_toldGenus, .int t_toldMarks, .ref h_t_toldPowers, .ref h_t_powerPlaces, .int t_isTree, .int t_toldLeaves, .int t_leavesPlace, .int t_toldSplits, .ref h_t_toldTree, .ref h_t_splitPlaces, .ref h_t_layers, .int t_isWhy, .ref h_t_paper, .int t_papered, .ref h_t_held, .ref h_t_numbers, .ref h_t_sizes, .ref h_t_heldLeaves, .ref h_t_items, .ref h_t_kept, .int t_isKept])), (h_t_met, .inl (cI, 36000, .inl w0)), (h_t_metSizes, .inl (cI, 3000, .inl w1))] t.heap) A) ([.ref h_t, .int p0, .int p1] : List Value).toArray s 0 0 A) (F0 m 94 ls []) := by
  have hta : ∀ w ∈ wA, w.before ([.ref h_t, .int p0, .int p1] : List Value).toArray s = true := hta_of hts
  have hinX9 : ∀ w ∈ wsX90, w ∈ wsX9_meets := hin_of in_X9
  intro vK2_94_0 H locs ls hP hD hS hl h
  unfold K_X9_meets_2_94 at h
  refine lv_iconst (v := (0 : Int32)) hx hb dX9_meets_94 (by decide) ?_
  refine lv_istore_n (lv' := [(3, .int (0 : Int32)), (0, .ref h_t), (1, .int p0), (2, .int p1)]) hx hb dX9_meets_95 rfl hl (by decide) rfl (fun ls hl => ?_)
  have hL96 : ∀ (n96 : Nat) (vL96_0 : Int32) (H : Heap) (locs : List Loc) (ls : Array Slot), va_P G vwCl [(h_t, .inr (8, [.int t_genus, .int t_marks, .ref h_t_powers, .int t_leaves, .int t_splits, .ref h_t_tree, .ref h_t_ahead, .ref h_t_behind, .ref h_t_before, .int t_done, .int t_undone, .ref h_t_rows, .ref h_t_met, .ref h_t_metSizes, .int t_metMany, .int t_treesSeen, .ref h_t_chosen, .ref h_t_tape, .int t_taped, .int t_place, .int t_isWrong, .int t_toldGenus, .int t_toldMarks, .ref h_t_toldPowers, .ref h_t_powerPlaces, .int t_isTree, .int t_toldLeaves, .int t_leavesPlace, .int t_toldSplits, .ref h_t_toldTree, .ref h_t_splitPlaces, .ref h_t_layers, .int t_isWhy, .ref h_t_paper, .int t_papered, .ref h_t_held, .ref h_t_numbers, .ref h_t_sizes, .ref h_t_heldLeaves, .ref h_t_items, .ref h_t_kept, .int t_isKept])), (h_t_met, .inl (cI, 36000, .inl vK2_94_0)), (h_t_metSizes, .inl (cI, 3000, .inl a_t_metSizes))] H → va_D A [(h_t, .inr (8, [.int t_genus, .int t_marks, .ref h_t_powers, .int t_leaves, .int t_splits, .ref h_t_tree, .ref h_t_ahead, .ref h_t_behind, .ref h_t_before, .int t_done, .int t_undone, .ref h_t_rows, .ref h_t_met, .ref h_t_metSizes, .int t_metMany, .int t_treesSeen, .ref h_t_chosen, .ref h_t_tape, .int t_taped, .int t_place, .int t_isWrong, .int t_toldGenus, .int t_toldMarks, .ref h_t_toldPowers, .ref h_t_powerPlaces, .int t_isTree, .int t_toldLeaves, .int t_leavesPlace, .int t_toldSplits, .ref h_t_toldTree, .ref h_t_splitPlaces, .ref h_t_layers, .int t_isWhy, .ref h_t_paper, .int t_papered, .ref h_t_held, .ref h_t_numbers, .ref h_t_sizes, .ref h_t_heldLeaves, .ref h_t_items, .ref h_t_kept, .int t_isKept])), (h_t_met, .inl (cI, 36000, .inl vK2_94_0)), (h_t_metSizes, .inl (cI, 3000, .inl a_t_metSizes))] → va_S A s.heap H locs → lv_has ls 6 [(0, .ref h_t), (1, .int p0), (2, .int p1), (3, .int vL96_0)] → wq1 (B_X9_meets_96 t_metMany a_t_metSizes p0 p1 vK2_94_0 (K_X9_meets_96_184 t_metMany a_t_metSizes p1 vK2_94_0)) n96 vL96_0 = some (w0, w1, w2) → W p l e (headSpec wsX9_meets ({ frames := 0, cells := 0, slots := 0, locals := 0 })).room s m ([.ref h_t, .int p0, .int p1] : List Value).toArray below meth c H locs 0 0 (MQ below (va_Qv (fun (_ : Unit) => True) (fun _ t => va_P G vwCl [(h_t, .inr (8, [.int t_genus, .int t_marks, .ref h_t_powers, .int t_leaves, .int t_splits, .ref h_t_tree, .ref h_t_ahead, .ref h_t_behind, .ref h_t_before, .int t_done, .int t_undone, .ref h_t_rows, .ref h_t_met, .ref h_t_metSizes, .int w2, .int t_treesSeen, .ref h_t_chosen, .ref h_t_tape, .int t_taped, .int t_place, .int t_isWrong, .int t_toldGenus, .int t_toldMarks, .ref h_t_toldPowers, .ref h_t_powerPlaces, .int t_isTree, .int t_toldLeaves, .int t_leavesPlace, .int t_toldSplits, .ref h_t_toldTree, .ref h_t_splitPlaces, .ref h_t_layers, .int t_isWhy, .ref h_t_paper, .int t_papered, .ref h_t_held, .ref h_t_numbers, .ref h_t_sizes, .ref h_t_heldLeaves, .ref h_t_items, .ref h_t_kept, .int t_isKept])), (h_t_met, .inl (cI, 36000, .inl w0)), (h_t_metSizes, .inl (cI, 3000, .inl w1))] t.heap) A) ([.ref h_t, .int p0, .int p1] : List Value).toArray s 0 0 A) (F0 m 96 ls []) := by
    intro n96
    induction n96 with
    | zero => intro vL96_0 H locs ls hP hD hS hl h; exact wq1_0 h
    | succ n96 ih96 =>
      intro vL96_0 H locs ls hP hD hS hl h
      have h := wq1_s h
      unfold B_X9_meets_96 at h
      refine lv_iload_n hx hb dX9_meets_96 rfl (lv_at hl 3 rfl) ?_
      refine lv_aload_n hx hb dX9_meets_97 rfl (lv_at hl 0 rfl) ?_
      refine va_get (D := G) (ci := 8) (v := .int t_metMany) (C := RX9) (T := TX9) (N := 42) hx hb hts hinX9 hown hK hP 0 rfl rfl 14 (by decide) (hta _ mw_723) (fun _ h9 => h9) rfl dX9_meets_98 ?_
      refine lv_icmp_ge (tgt := 184) hx hb dX9_meets_101 (by decide) (fun c2 => ?_) (fun c2 => ?_)
      · have h := it_p h c2
        exact tK_X9_meets_96_184 hx hb hr hml hts hown hlocks hK hA  _ _ _ hP hD hS (lv_sub hl [0, 2] rfl) h
      have h := it_n h c2
      refine lv_aload_n hx hb dX9_meets_104 rfl (lv_at hl 0 rfl) ?_
      refine va_get (D := G) (ci := 8) (v := .ref h_t_metSizes) (C := RX9) (T := TX9) (N := 42) hx hb hts hinX9 hown hK hP 0 rfl rfl 13 (by decide) (hta _ mw_617) (fun _ h9 => h9) rfl dX9_meets_105 ?_
      refine lv_iload_n hx hb dX9_meets_108 rfl (lv_at hl 3 rfl) ?_
      obtain ⟨hn3, h⟩ := ck_e h
      refine va_iald hx hb hK hP 2 0 rfl rfl hn3 dX9_meets_109 ?_
      refine lv_iload_n hx hb dX9_meets_110 rfl (lv_at hl 2 rfl) ?_
      refine lv_icmp_ne (tgt := 118) hx hb dX9_meets_111 (by decide) (fun c4 => ?_) (fun c4 => ?_)
      · have h := it_n h c4
        refine lv_iconst (v := (0 : Int32)) hx hb dX9_meets_118 (by decide) ?_
        refine lv_istore (lv' := [(4, .int (0 : Int32)), (0, .ref h_t), (1, .int p0), (2, .int p1), (3, .int vL96_0)]) hx hb dX9_meets_119 hl (by decide) rfl (fun ls hl => ?_)
        refine lv_iconst (v := (0 : Int32)) hx hb dX9_meets_121 (by decide) ?_
        refine lv_istore (lv' := [(5, .int (0 : Int32)), (4, .int (0 : Int32)), (0, .ref h_t), (1, .int p0), (2, .int p1), (3, .int vL96_0)]) hx hb dX9_meets_122 hl (by decide) rfl (fun ls hl => ?_)
        have hK_X9_meets_124_172 : ∀  (vK124_172_0 : Int32) (H : Heap) (locs : List Loc) (ls : Array Slot), va_P G vwCl [(h_t, .inr (8, [.int t_genus, .int t_marks, .ref h_t_powers, .int t_leaves, .int t_splits, .ref h_t_tree, .ref h_t_ahead, .ref h_t_behind, .ref h_t_before, .int t_done, .int t_undone, .ref h_t_rows, .ref h_t_met, .ref h_t_metSizes, .int t_metMany, .int t_treesSeen, .ref h_t_chosen, .ref h_t_tape, .int t_taped, .int t_place, .int t_isWrong, .int t_toldGenus, .int t_toldMarks, .ref h_t_toldPowers, .ref h_t_powerPlaces, .int t_isTree, .int t_toldLeaves, .int t_leavesPlace, .int t_toldSplits, .ref h_t_toldTree, .ref h_t_splitPlaces, .ref h_t_layers, .int t_isWhy, .ref h_t_paper, .int t_papered, .ref h_t_held, .ref h_t_numbers, .ref h_t_sizes, .ref h_t_heldLeaves, .ref h_t_items, .ref h_t_kept, .int t_isKept])), (h_t_met, .inl (cI, 36000, .inl vK2_94_0)), (h_t_metSizes, .inl (cI, 3000, .inl a_t_metSizes))] H → va_D A [(h_t, .inr (8, [.int t_genus, .int t_marks, .ref h_t_powers, .int t_leaves, .int t_splits, .ref h_t_tree, .ref h_t_ahead, .ref h_t_behind, .ref h_t_before, .int t_done, .int t_undone, .ref h_t_rows, .ref h_t_met, .ref h_t_metSizes, .int t_metMany, .int t_treesSeen, .ref h_t_chosen, .ref h_t_tape, .int t_taped, .int t_place, .int t_isWrong, .int t_toldGenus, .int t_toldMarks, .ref h_t_toldPowers, .ref h_t_powerPlaces, .int t_isTree, .int t_toldLeaves, .int t_leavesPlace, .int t_toldSplits, .ref h_t_toldTree, .ref h_t_splitPlaces, .ref h_t_layers, .int t_isWhy, .ref h_t_paper, .int t_papered, .ref h_t_held, .ref h_t_numbers, .ref h_t_sizes, .ref h_t_heldLeaves, .ref h_t_items, .ref h_t_kept, .int t_isKept])), (h_t_met, .inl (cI, 36000, .inl vK2_94_0)), (h_t_metSizes, .inl (cI, 3000, .inl a_t_metSizes))] → va_S A s.heap H locs → lv_has ls 6 [(0, .ref h_t), (1, .int p0), (2, .int p1), (3, .int vL96_0), (4, .int vK124_172_0)] → K_X9_meets_124_172 t_metMany a_t_metSizes vK2_94_0 vL96_0 (wq1 (B_X9_meets_96 t_metMany a_t_metSizes p0 p1 vK2_94_0 (K_X9_meets_96_184 t_metMany a_t_metSizes p1 vK2_94_0)) n96) vK124_172_0 = some (w0, w1, w2) → W p l e (headSpec wsX9_meets ({ frames := 0, cells := 0, slots := 0, locals := 0 })).room s m ([.ref h_t, .int p0, .int p1] : List Value).toArray below meth c H locs 0 0 (MQ below (va_Qv (fun (_ : Unit) => True) (fun _ t => va_P G vwCl [(h_t, .inr (8, [.int t_genus, .int t_marks, .ref h_t_powers, .int t_leaves, .int t_splits, .ref h_t_tree, .ref h_t_ahead, .ref h_t_behind, .ref h_t_before, .int t_done, .int t_undone, .ref h_t_rows, .ref h_t_met, .ref h_t_metSizes, .int w2, .int t_treesSeen, .ref h_t_chosen, .ref h_t_tape, .int t_taped, .int t_place, .int t_isWrong, .int t_toldGenus, .int t_toldMarks, .ref h_t_toldPowers, .ref h_t_powerPlaces, .int t_isTree, .int t_toldLeaves, .int t_leavesPlace, .int t_toldSplits, .ref h_t_toldTree, .ref h_t_splitPlaces, .ref h_t_layers, .int t_isWhy, .ref h_t_paper, .int t_papered, .ref h_t_held, .ref h_t_numbers, .ref h_t_sizes, .ref h_t_heldLeaves, .ref h_t_items, .ref h_t_kept, .int t_isKept])), (h_t_met, .inl (cI, 36000, .inl w0)), (h_t_metSizes, .inl (cI, 3000, .inl w1))] t.heap) A) ([.ref h_t, .int p0, .int p1] : List Value).toArray s 0 0 A) (F0 m 172 ls []) := by
          intro vK124_172_0 H locs ls hP hD hS hl h
          unfold K_X9_meets_124_172 at h
          refine lv_iload hx hb dX9_meets_172 (lv_at hl 4 rfl) ?_
          refine lv_if_eq (tgt := 178) hx hb dX9_meets_174 (by decide) (fun c5 => ?_) (fun c5 => ?_)
          · have h := it_p h c5
            refine lv_iinc (v := (vL96_0 + (1 : Int32))) (lv' := [(3, .int (vL96_0 + (1 : Int32))), (0, .ref h_t), (1, .int p0), (2, .int p1), (4, .int vK124_172_0)]) hx hb dX9_meets_178 hl (k := 3) rfl (by first | rfl | decide) (by decide) rfl (fun ls hl => ?_)
            refine lv_goto (tgt := 96) hx hb dX9_meets_181 (by decide) ?_
            exact ih96 (vL96_0 + (1 : Int32)) _ _ _ hP hD hS (lv_sub hl [1, 2, 3, 0] rfl) h
          have h := it_n h c5
          have h9 := Option.some.inj h
          have e9 : vK2_94_0 = w0 := congrArg (fun z9 => z9.1) h9
          rw [← e9]
          have e9 : a_t_metSizes = w1 := congrArg (fun z9 => z9.2.1) h9
          rw [← e9]
          have e9 : t_metMany = w2 := congrArg (fun z9 => z9.2.2) h9
          rw [← e9]
          exact k_vret hx hb hr hlocks hP hS dX9_meets_177
        have hL124 : ∀ (n124 : Nat) (vL124_0 : Int32) (vL124_1 : Int32) (H : Heap) (locs : List Loc) (ls : Array Slot), va_P G vwCl [(h_t, .inr (8, [.int t_genus, .int t_marks, .ref h_t_powers, .int t_leaves, .int t_splits, .ref h_t_tree, .ref h_t_ahead, .ref h_t_behind, .ref h_t_before, .int t_done, .int t_undone, .ref h_t_rows, .ref h_t_met, .ref h_t_metSizes, .int t_metMany, .int t_treesSeen, .ref h_t_chosen, .ref h_t_tape, .int t_taped, .int t_place, .int t_isWrong, .int t_toldGenus, .int t_toldMarks, .ref h_t_toldPowers, .ref h_t_powerPlaces, .int t_isTree, .int t_toldLeaves, .int t_leavesPlace, .int t_toldSplits, .ref h_t_toldTree, .ref h_t_splitPlaces, .ref h_t_layers, .int t_isWhy, .ref h_t_paper, .int t_papered, .ref h_t_held, .ref h_t_numbers, .ref h_t_sizes, .ref h_t_heldLeaves, .ref h_t_items, .ref h_t_kept, .int t_isKept])), (h_t_met, .inl (cI, 36000, .inl vK2_94_0)), (h_t_metSizes, .inl (cI, 3000, .inl a_t_metSizes))] H → va_D A [(h_t, .inr (8, [.int t_genus, .int t_marks, .ref h_t_powers, .int t_leaves, .int t_splits, .ref h_t_tree, .ref h_t_ahead, .ref h_t_behind, .ref h_t_before, .int t_done, .int t_undone, .ref h_t_rows, .ref h_t_met, .ref h_t_metSizes, .int t_metMany, .int t_treesSeen, .ref h_t_chosen, .ref h_t_tape, .int t_taped, .int t_place, .int t_isWrong, .int t_toldGenus, .int t_toldMarks, .ref h_t_toldPowers, .ref h_t_powerPlaces, .int t_isTree, .int t_toldLeaves, .int t_leavesPlace, .int t_toldSplits, .ref h_t_toldTree, .ref h_t_splitPlaces, .ref h_t_layers, .int t_isWhy, .ref h_t_paper, .int t_papered, .ref h_t_held, .ref h_t_numbers, .ref h_t_sizes, .ref h_t_heldLeaves, .ref h_t_items, .ref h_t_kept, .int t_isKept])), (h_t_met, .inl (cI, 36000, .inl vK2_94_0)), (h_t_metSizes, .inl (cI, 3000, .inl a_t_metSizes))] → va_S A s.heap H locs → lv_has ls 6 [(0, .ref h_t), (1, .int p0), (2, .int p1), (3, .int vL96_0), (4, .int vL124_0), (5, .int vL124_1)] → wq2 (B_X9_meets_124 p0 p1 vK2_94_0 vL96_0 (K_X9_meets_124_172 t_metMany a_t_metSizes vK2_94_0 vL96_0 (wq1 (B_X9_meets_96 t_metMany a_t_metSizes p0 p1 vK2_94_0 (K_X9_meets_96_184 t_metMany a_t_metSizes p1 vK2_94_0)) n96))) n124 vL124_0 vL124_1 = some (w0, w1, w2) → W p l e (headSpec wsX9_meets ({ frames := 0, cells := 0, slots := 0, locals := 0 })).room s m ([.ref h_t, .int p0, .int p1] : List Value).toArray below meth c H locs 0 0 (MQ below (va_Qv (fun (_ : Unit) => True) (fun _ t => va_P G vwCl [(h_t, .inr (8, [.int t_genus, .int t_marks, .ref h_t_powers, .int t_leaves, .int t_splits, .ref h_t_tree, .ref h_t_ahead, .ref h_t_behind, .ref h_t_before, .int t_done, .int t_undone, .ref h_t_rows, .ref h_t_met, .ref h_t_metSizes, .int w2, .int t_treesSeen, .ref h_t_chosen, .ref h_t_tape, .int t_taped, .int t_place, .int t_isWrong, .int t_toldGenus, .int t_toldMarks, .ref h_t_toldPowers, .ref h_t_powerPlaces, .int t_isTree, .int t_toldLeaves, .int t_leavesPlace, .int t_toldSplits, .ref h_t_toldTree, .ref h_t_splitPlaces, .ref h_t_layers, .int t_isWhy, .ref h_t_paper, .int t_papered, .ref h_t_held, .ref h_t_numbers, .ref h_t_sizes, .ref h_t_heldLeaves, .ref h_t_items, .ref h_t_kept, .int t_isKept])), (h_t_met, .inl (cI, 36000, .inl w0)), (h_t_metSizes, .inl (cI, 3000, .inl w1))] t.heap) A) ([.ref h_t, .int p0, .int p1] : List Value).toArray s 0 0 A) (F0 m 124 ls []) := by
          intro n124
          induction n124 with
          | zero => intro vL124_0 vL124_1 H locs ls hP hD hS hl h; exact wq2_0 h
          | succ n124 ih124 =>
            intro vL124_0 vL124_1 H locs ls hP hD hS hl h
            have h := wq2_s h
            unfold B_X9_meets_124 at h
            refine lv_iload hx hb dX9_meets_124 (lv_at hl 5 rfl) ?_
            refine lv_iload_n hx hb dX9_meets_126 rfl (lv_at hl 2 rfl) ?_
            refine lv_icmp_ge (tgt := 172) hx hb dX9_meets_127 (by decide) (fun c6 => ?_) (fun c6 => ?_)
            · have h := it_p h c6
              exact hK_X9_meets_124_172 vL124_0 _ _ _ hP hD hS (lv_sub hl [0, 1, 2, 3, 4] rfl) h
            have h := it_n h c6
            refine lv_iload hx hb dX9_meets_130 (lv_at hl 4 rfl) ?_
            refine lv_if_eq (tgt := 172) hx hb dX9_meets_132 (by decide) (fun c7 => ?_) (fun c7 => ?_)
            · have h := it_p h c7
              exact hK_X9_meets_124_172 vL124_0 _ _ _ hP hD hS (lv_sub hl [0, 1, 2, 3, 4] rfl) h
            have h := it_n h c7
            refine lv_aload_n hx hb dX9_meets_135 rfl (lv_at hl 0 rfl) ?_
            refine va_get (D := G) (ci := 8) (v := .ref h_t_met) (C := RX9) (T := TX9) (N := 42) hx hb hts hinX9 hown hK hP 0 rfl rfl 12 (by decide) (hta _ mw_616) (fun _ h9 => h9) rfl dX9_meets_136 ?_
            refine lv_iload_n hx hb dX9_meets_139 rfl (lv_at hl 3 rfl) ?_
            refine lv_bipush (v := (12 : Int32)) hx hb dX9_meets_140 (by decide) ?_
            refine lv_imul hx hb dX9_meets_142 ?_
            refine lv_iload hx hb dX9_meets_143 (lv_at hl 5 rfl) ?_
            refine lv_iadd hx hb dX9_meets_145 ?_
            obtain ⟨hn8, h⟩ := ck_e h
            refine va_iald hx hb hK hP 1 0 rfl rfl hn8 dX9_meets_146 ?_
            refine lv_aload_n hx hb dX9_meets_147 rfl (lv_at hl 0 rfl) ?_
            refine va_get (D := G) (ci := 8) (v := .ref h_t_met) (C := RX9) (T := TX9) (N := 42) hx hb hts hinX9 hown hK hP 0 rfl rfl 12 (by decide) (hta _ mw_616) (fun _ h9 => h9) rfl dX9_meets_148 ?_
            refine lv_iload_n hx hb dX9_meets_151 rfl (lv_at hl 1 rfl) ?_
            refine lv_iload hx hb dX9_meets_152 (lv_at hl 5 rfl) ?_
            refine lv_iadd hx hb dX9_meets_154 ?_
            obtain ⟨hn9, h⟩ := ck_e h
            refine va_iald hx hb hK hP 1 0 rfl rfl hn9 dX9_meets_155 ?_
            refine lv_icmp_ne (tgt := 163) hx hb dX9_meets_156 (by decide) (fun c10 => ?_) (fun c10 => ?_)
            · have h := it_n h c10
              refine lv_iconst (v := (0 : Int32)) hx hb dX9_meets_163 (by decide) ?_
              refine lv_istore (lv' := [(4, .int (0 : Int32)), (0, .ref h_t), (1, .int p0), (2, .int p1), (3, .int vL96_0), (5, .int vL124_1)]) hx hb dX9_meets_164 hl (by decide) rfl (fun ls hl => ?_)
              refine lv_iinc (v := (vL124_1 + (1 : Int32))) (lv' := [(5, .int (vL124_1 + (1 : Int32))), (4, .int (0 : Int32)), (0, .ref h_t), (1, .int p0), (2, .int p1), (3, .int vL96_0)]) hx hb dX9_meets_166 hl (k := 5) rfl (by first | rfl | decide) (by decide) rfl (fun ls hl => ?_)
              refine lv_goto (tgt := 124) hx hb dX9_meets_169 (by decide) ?_
              exact ih124 (0 : Int32) (vL124_1 + (1 : Int32)) _ _ _ hP hD hS (lv_sub hl [2, 3, 4, 5, 1, 0] rfl) h
            have h := it_p h c10
            refine lv_iconst (v := (1 : Int32)) hx hb dX9_meets_159 (by decide) ?_
            refine lv_goto (tgt := 164) hx hb dX9_meets_160 (by decide) ?_
            refine lv_istore (lv' := [(4, .int (1 : Int32)), (0, .ref h_t), (1, .int p0), (2, .int p1), (3, .int vL96_0), (5, .int vL124_1)]) hx hb dX9_meets_164 hl (by decide) rfl (fun ls hl => ?_)
            refine lv_iinc (v := (vL124_1 + (1 : Int32))) (lv' := [(5, .int (vL124_1 + (1 : Int32))), (4, .int (1 : Int32)), (0, .ref h_t), (1, .int p0), (2, .int p1), (3, .int vL96_0)]) hx hb dX9_meets_166 hl (k := 5) rfl (by first | rfl | decide) (by decide) rfl (fun ls hl => ?_)
            refine lv_goto (tgt := 124) hx hb dX9_meets_169 (by decide) ?_
            exact ih124 (1 : Int32) (vL124_1 + (1 : Int32)) _ _ _ hP hD hS (lv_sub hl [2, 3, 4, 5, 1, 0] rfl) h
        exact hL124 FU (0 : Int32) (0 : Int32) _ _ _ hP hD hS (lv_sub hl [2, 3, 4, 5, 1, 0] rfl) h
      have h := it_p h c4
      refine lv_iconst (v := (1 : Int32)) hx hb dX9_meets_114 (by decide) ?_
      refine lv_goto (tgt := 119) hx hb dX9_meets_115 (by decide) ?_
      refine lv_istore (lv' := [(4, .int (1 : Int32)), (0, .ref h_t), (1, .int p0), (2, .int p1), (3, .int vL96_0)]) hx hb dX9_meets_119 hl (by decide) rfl (fun ls hl => ?_)
      refine lv_iconst (v := (0 : Int32)) hx hb dX9_meets_121 (by decide) ?_
      refine lv_istore (lv' := [(5, .int (0 : Int32)), (4, .int (1 : Int32)), (0, .ref h_t), (1, .int p0), (2, .int p1), (3, .int vL96_0)]) hx hb dX9_meets_122 hl (by decide) rfl (fun ls hl => ?_)
      have hK_X9_meets_124_172x1 : ∀  (vK124_172_0 : Int32) (H : Heap) (locs : List Loc) (ls : Array Slot), va_P G vwCl [(h_t, .inr (8, [.int t_genus, .int t_marks, .ref h_t_powers, .int t_leaves, .int t_splits, .ref h_t_tree, .ref h_t_ahead, .ref h_t_behind, .ref h_t_before, .int t_done, .int t_undone, .ref h_t_rows, .ref h_t_met, .ref h_t_metSizes, .int t_metMany, .int t_treesSeen, .ref h_t_chosen, .ref h_t_tape, .int t_taped, .int t_place, .int t_isWrong, .int t_toldGenus, .int t_toldMarks, .ref h_t_toldPowers, .ref h_t_powerPlaces, .int t_isTree, .int t_toldLeaves, .int t_leavesPlace, .int t_toldSplits, .ref h_t_toldTree, .ref h_t_splitPlaces, .ref h_t_layers, .int t_isWhy, .ref h_t_paper, .int t_papered, .ref h_t_held, .ref h_t_numbers, .ref h_t_sizes, .ref h_t_heldLeaves, .ref h_t_items, .ref h_t_kept, .int t_isKept])), (h_t_met, .inl (cI, 36000, .inl vK2_94_0)), (h_t_metSizes, .inl (cI, 3000, .inl a_t_metSizes))] H → va_D A [(h_t, .inr (8, [.int t_genus, .int t_marks, .ref h_t_powers, .int t_leaves, .int t_splits, .ref h_t_tree, .ref h_t_ahead, .ref h_t_behind, .ref h_t_before, .int t_done, .int t_undone, .ref h_t_rows, .ref h_t_met, .ref h_t_metSizes, .int t_metMany, .int t_treesSeen, .ref h_t_chosen, .ref h_t_tape, .int t_taped, .int t_place, .int t_isWrong, .int t_toldGenus, .int t_toldMarks, .ref h_t_toldPowers, .ref h_t_powerPlaces, .int t_isTree, .int t_toldLeaves, .int t_leavesPlace, .int t_toldSplits, .ref h_t_toldTree, .ref h_t_splitPlaces, .ref h_t_layers, .int t_isWhy, .ref h_t_paper, .int t_papered, .ref h_t_held, .ref h_t_numbers, .ref h_t_sizes, .ref h_t_heldLeaves, .ref h_t_items, .ref h_t_kept, .int t_isKept])), (h_t_met, .inl (cI, 36000, .inl vK2_94_0)), (h_t_metSizes, .inl (cI, 3000, .inl a_t_metSizes))] → va_S A s.heap H locs → lv_has ls 6 [(0, .ref h_t), (1, .int p0), (2, .int p1), (3, .int vL96_0), (4, .int vK124_172_0)] → K_X9_meets_124_172x1 t_metMany a_t_metSizes vK2_94_0 vL96_0 (wq1 (B_X9_meets_96 t_metMany a_t_metSizes p0 p1 vK2_94_0 (K_X9_meets_96_184 t_metMany a_t_metSizes p1 vK2_94_0)) n96) vK124_172_0 = some (w0, w1, w2) → W p l e (headSpec wsX9_meets ({ frames := 0, cells := 0, slots := 0, locals := 0 })).room s m ([.ref h_t, .int p0, .int p1] : List Value).toArray below meth c H locs 0 0 (MQ below (va_Qv (fun (_ : Unit) => True) (fun _ t => va_P G vwCl [(h_t, .inr (8, [.int t_genus, .int t_marks, .ref h_t_powers, .int t_leaves, .int t_splits, .ref h_t_tree, .ref h_t_ahead, .ref h_t_behind, .ref h_t_before, .int t_done, .int t_undone, .ref h_t_rows, .ref h_t_met, .ref h_t_metSizes, .int w2, .int t_treesSeen, .ref h_t_chosen, .ref h_t_tape, .int t_taped, .int t_place, .int t_isWrong, .int t_toldGenus, .int t_toldMarks, .ref h_t_toldPowers, .ref h_t_powerPlaces, .int t_isTree, .int t_toldLeaves, .int t_leavesPlace, .int t_toldSplits, .ref h_t_toldTree, .ref h_t_splitPlaces, .ref h_t_layers, .int t_isWhy, .ref h_t_paper, .int t_papered, .ref h_t_held, .ref h_t_numbers, .ref h_t_sizes, .ref h_t_heldLeaves, .ref h_t_items, .ref h_t_kept, .int t_isKept])), (h_t_met, .inl (cI, 36000, .inl w0)), (h_t_metSizes, .inl (cI, 3000, .inl w1))] t.heap) A) ([.ref h_t, .int p0, .int p1] : List Value).toArray s 0 0 A) (F0 m 172 ls []) := by
        intro vK124_172_0 H locs ls hP hD hS hl h
        unfold K_X9_meets_124_172x1 at h
        refine lv_iload hx hb dX9_meets_172 (lv_at hl 4 rfl) ?_
        refine lv_if_eq (tgt := 178) hx hb dX9_meets_174 (by decide) (fun c11 => ?_) (fun c11 => ?_)
        · have h := it_p h c11
          refine lv_iinc (v := (vL96_0 + (1 : Int32))) (lv' := [(3, .int (vL96_0 + (1 : Int32))), (0, .ref h_t), (1, .int p0), (2, .int p1), (4, .int vK124_172_0)]) hx hb dX9_meets_178 hl (k := 3) rfl (by first | rfl | decide) (by decide) rfl (fun ls hl => ?_)
          refine lv_goto (tgt := 96) hx hb dX9_meets_181 (by decide) ?_
          exact ih96 (vL96_0 + (1 : Int32)) _ _ _ hP hD hS (lv_sub hl [1, 2, 3, 0] rfl) h
        have h := it_n h c11
        have h9 := Option.some.inj h
        have e9 : vK2_94_0 = w0 := congrArg (fun z9 => z9.1) h9
        rw [← e9]
        have e9 : a_t_metSizes = w1 := congrArg (fun z9 => z9.2.1) h9
        rw [← e9]
        have e9 : t_metMany = w2 := congrArg (fun z9 => z9.2.2) h9
        rw [← e9]
        exact k_vret hx hb hr hlocks hP hS dX9_meets_177
      have hL124x1 : ∀ (n124 : Nat) (vL124_0 : Int32) (vL124_1 : Int32) (H : Heap) (locs : List Loc) (ls : Array Slot), va_P G vwCl [(h_t, .inr (8, [.int t_genus, .int t_marks, .ref h_t_powers, .int t_leaves, .int t_splits, .ref h_t_tree, .ref h_t_ahead, .ref h_t_behind, .ref h_t_before, .int t_done, .int t_undone, .ref h_t_rows, .ref h_t_met, .ref h_t_metSizes, .int t_metMany, .int t_treesSeen, .ref h_t_chosen, .ref h_t_tape, .int t_taped, .int t_place, .int t_isWrong, .int t_toldGenus, .int t_toldMarks, .ref h_t_toldPowers, .ref h_t_powerPlaces, .int t_isTree, .int t_toldLeaves, .int t_leavesPlace, .int t_toldSplits, .ref h_t_toldTree, .ref h_t_splitPlaces, .ref h_t_layers, .int t_isWhy, .ref h_t_paper, .int t_papered, .ref h_t_held, .ref h_t_numbers, .ref h_t_sizes, .ref h_t_heldLeaves, .ref h_t_items, .ref h_t_kept, .int t_isKept])), (h_t_met, .inl (cI, 36000, .inl vK2_94_0)), (h_t_metSizes, .inl (cI, 3000, .inl a_t_metSizes))] H → va_D A [(h_t, .inr (8, [.int t_genus, .int t_marks, .ref h_t_powers, .int t_leaves, .int t_splits, .ref h_t_tree, .ref h_t_ahead, .ref h_t_behind, .ref h_t_before, .int t_done, .int t_undone, .ref h_t_rows, .ref h_t_met, .ref h_t_metSizes, .int t_metMany, .int t_treesSeen, .ref h_t_chosen, .ref h_t_tape, .int t_taped, .int t_place, .int t_isWrong, .int t_toldGenus, .int t_toldMarks, .ref h_t_toldPowers, .ref h_t_powerPlaces, .int t_isTree, .int t_toldLeaves, .int t_leavesPlace, .int t_toldSplits, .ref h_t_toldTree, .ref h_t_splitPlaces, .ref h_t_layers, .int t_isWhy, .ref h_t_paper, .int t_papered, .ref h_t_held, .ref h_t_numbers, .ref h_t_sizes, .ref h_t_heldLeaves, .ref h_t_items, .ref h_t_kept, .int t_isKept])), (h_t_met, .inl (cI, 36000, .inl vK2_94_0)), (h_t_metSizes, .inl (cI, 3000, .inl a_t_metSizes))] → va_S A s.heap H locs → lv_has ls 6 [(0, .ref h_t), (1, .int p0), (2, .int p1), (3, .int vL96_0), (4, .int vL124_0), (5, .int vL124_1)] → wq2 (B_X9_meets_124x1 p0 p1 vK2_94_0 vL96_0 (K_X9_meets_124_172x1 t_metMany a_t_metSizes vK2_94_0 vL96_0 (wq1 (B_X9_meets_96 t_metMany a_t_metSizes p0 p1 vK2_94_0 (K_X9_meets_96_184 t_metMany a_t_metSizes p1 vK2_94_0)) n96))) n124 vL124_0 vL124_1 = some (w0, w1, w2) → W p l e (headSpec wsX9_meets ({ frames := 0, cells := 0, slots := 0, locals := 0 })).room s m ([.ref h_t, .int p0, .int p1] : List Value).toArray below meth c H locs 0 0 (MQ below (va_Qv (fun (_ : Unit) => True) (fun _ t => va_P G vwCl [(h_t, .inr (8, [.int t_genus, .int t_marks, .ref h_t_powers, .int t_leaves, .int t_splits, .ref h_t_tree, .ref h_t_ahead, .ref h_t_behind, .ref h_t_before, .int t_done, .int t_undone, .ref h_t_rows, .ref h_t_met, .ref h_t_metSizes, .int w2, .int t_treesSeen, .ref h_t_chosen, .ref h_t_tape, .int t_taped, .int t_place, .int t_isWrong, .int t_toldGenus, .int t_toldMarks, .ref h_t_toldPowers, .ref h_t_powerPlaces, .int t_isTree, .int t_toldLeaves, .int t_leavesPlace, .int t_toldSplits, .ref h_t_toldTree, .ref h_t_splitPlaces, .ref h_t_layers, .int t_isWhy, .ref h_t_paper, .int t_papered, .ref h_t_held, .ref h_t_numbers, .ref h_t_sizes, .ref h_t_heldLeaves, .ref h_t_items, .ref h_t_kept, .int t_isKept])), (h_t_met, .inl (cI, 36000, .inl w0)), (h_t_metSizes, .inl (cI, 3000, .inl w1))] t.heap) A) ([.ref h_t, .int p0, .int p1] : List Value).toArray s 0 0 A) (F0 m 124 ls []) := by
        intro n124
        induction n124 with
        | zero => intro vL124_0 vL124_1 H locs ls hP hD hS hl h; exact wq2_0 h
        | succ n124 ih124 =>
          intro vL124_0 vL124_1 H locs ls hP hD hS hl h
          have h := wq2_s h
          unfold B_X9_meets_124x1 at h
          refine lv_iload hx hb dX9_meets_124 (lv_at hl 5 rfl) ?_
          refine lv_iload_n hx hb dX9_meets_126 rfl (lv_at hl 2 rfl) ?_
          refine lv_icmp_ge (tgt := 172) hx hb dX9_meets_127 (by decide) (fun c12 => ?_) (fun c12 => ?_)
          · have h := it_p h c12
            exact hK_X9_meets_124_172x1 vL124_0 _ _ _ hP hD hS (lv_sub hl [0, 1, 2, 3, 4] rfl) h
          have h := it_n h c12
          refine lv_iload hx hb dX9_meets_130 (lv_at hl 4 rfl) ?_
          refine lv_if_eq (tgt := 172) hx hb dX9_meets_132 (by decide) (fun c13 => ?_) (fun c13 => ?_)
          · have h := it_p h c13
            exact hK_X9_meets_124_172x1 vL124_0 _ _ _ hP hD hS (lv_sub hl [0, 1, 2, 3, 4] rfl) h
          have h := it_n h c13
          refine lv_aload_n hx hb dX9_meets_135 rfl (lv_at hl 0 rfl) ?_
          refine va_get (D := G) (ci := 8) (v := .ref h_t_met) (C := RX9) (T := TX9) (N := 42) hx hb hts hinX9 hown hK hP 0 rfl rfl 12 (by decide) (hta _ mw_616) (fun _ h9 => h9) rfl dX9_meets_136 ?_
          refine lv_iload_n hx hb dX9_meets_139 rfl (lv_at hl 3 rfl) ?_
          refine lv_bipush (v := (12 : Int32)) hx hb dX9_meets_140 (by decide) ?_
          refine lv_imul hx hb dX9_meets_142 ?_
          refine lv_iload hx hb dX9_meets_143 (lv_at hl 5 rfl) ?_
          refine lv_iadd hx hb dX9_meets_145 ?_
          obtain ⟨hn14, h⟩ := ck_e h
          refine va_iald hx hb hK hP 1 0 rfl rfl hn14 dX9_meets_146 ?_
          refine lv_aload_n hx hb dX9_meets_147 rfl (lv_at hl 0 rfl) ?_
          refine va_get (D := G) (ci := 8) (v := .ref h_t_met) (C := RX9) (T := TX9) (N := 42) hx hb hts hinX9 hown hK hP 0 rfl rfl 12 (by decide) (hta _ mw_616) (fun _ h9 => h9) rfl dX9_meets_148 ?_
          refine lv_iload_n hx hb dX9_meets_151 rfl (lv_at hl 1 rfl) ?_
          refine lv_iload hx hb dX9_meets_152 (lv_at hl 5 rfl) ?_
          refine lv_iadd hx hb dX9_meets_154 ?_
          obtain ⟨hn15, h⟩ := ck_e h
          refine va_iald hx hb hK hP 1 0 rfl rfl hn15 dX9_meets_155 ?_
          refine lv_icmp_ne (tgt := 163) hx hb dX9_meets_156 (by decide) (fun c16 => ?_) (fun c16 => ?_)
          · have h := it_n h c16
            refine lv_iconst (v := (0 : Int32)) hx hb dX9_meets_163 (by decide) ?_
            refine lv_istore (lv' := [(4, .int (0 : Int32)), (0, .ref h_t), (1, .int p0), (2, .int p1), (3, .int vL96_0), (5, .int vL124_1)]) hx hb dX9_meets_164 hl (by decide) rfl (fun ls hl => ?_)
            refine lv_iinc (v := (vL124_1 + (1 : Int32))) (lv' := [(5, .int (vL124_1 + (1 : Int32))), (4, .int (0 : Int32)), (0, .ref h_t), (1, .int p0), (2, .int p1), (3, .int vL96_0)]) hx hb dX9_meets_166 hl (k := 5) rfl (by first | rfl | decide) (by decide) rfl (fun ls hl => ?_)
            refine lv_goto (tgt := 124) hx hb dX9_meets_169 (by decide) ?_
            exact ih124 (0 : Int32) (vL124_1 + (1 : Int32)) _ _ _ hP hD hS (lv_sub hl [2, 3, 4, 5, 1, 0] rfl) h
          have h := it_p h c16
          refine lv_iconst (v := (1 : Int32)) hx hb dX9_meets_159 (by decide) ?_
          refine lv_goto (tgt := 164) hx hb dX9_meets_160 (by decide) ?_
          refine lv_istore (lv' := [(4, .int (1 : Int32)), (0, .ref h_t), (1, .int p0), (2, .int p1), (3, .int vL96_0), (5, .int vL124_1)]) hx hb dX9_meets_164 hl (by decide) rfl (fun ls hl => ?_)
          refine lv_iinc (v := (vL124_1 + (1 : Int32))) (lv' := [(5, .int (vL124_1 + (1 : Int32))), (4, .int (1 : Int32)), (0, .ref h_t), (1, .int p0), (2, .int p1), (3, .int vL96_0)]) hx hb dX9_meets_166 hl (k := 5) rfl (by first | rfl | decide) (by decide) rfl (fun ls hl => ?_)
          refine lv_goto (tgt := 124) hx hb dX9_meets_169 (by decide) ?_
          exact ih124 (1 : Int32) (vL124_1 + (1 : Int32)) _ _ _ hP hD hS (lv_sub hl [2, 3, 4, 5, 1, 0] rfl) h
      exact hL124x1 FU (1 : Int32) (0 : Int32) _ _ _ hP hD hS (lv_sub hl [2, 3, 4, 5, 1, 0] rfl) h
  exact hL96 FU (0 : Int32) _ _ _ hP hD hS (lv_sub hl [1, 2, 3, 0] rfl) h
set_option maxHeartbeats 4000000 in
set_option maxRecDepth 100000 in
theorem c_X9_meets (l : Launch) (G : va_G) (cI cJ cD cH : ClassId) (sz : Nat) (h_t : Nat) (h_t_met : Nat) (h_t_metSizes : Nat) (h_t_powers : Nat) (h_t_tree : Nat) (h_t_ahead : Nat) (h_t_behind : Nat) (h_t_before : Nat) (h_t_rows : Nat) (h_t_chosen : Nat) (h_t_tape : Nat) (h_t_toldPowers : Nat) (h_t_powerPlaces : Nat) (h_t_toldTree : Nat) (h_t_splitPlaces : Nat) (h_t_layers : Nat) (h_t_paper : Nat) (h_t_held : Nat) (h_t_numbers : Nat) (h_t_sizes : Nat) (h_t_heldLeaves : Nat) (h_t_items : Nat) (h_t_kept : Nat) (t_genus : Int32) (t_marks : Int32) (t_leaves : Int32) (t_splits : Int32) (t_done : Int32) (t_undone : Int32) (t_metMany : Int32) (t_treesSeen : Int32) (t_taped : Int32) (t_place : Int32) (t_isWrong : Int32) (t_toldGenus : Int32) (t_toldMarks : Int32) (t_isTree : Int32) (t_toldLeaves : Int32) (t_leavesPlace : Int32) (t_toldSplits : Int32) (t_isWhy : Int32) (t_papered : Int32) (t_isKept : Int32) (a_t_met : Nat → Int32) (a_t_metSizes : Nat → Int32) (p0 : Int32) (p1 : Int32) (w0 : Nat → Int32) (w1 : Nat → Int32) (w2 : Int32) (hF : F_X9_meets t_metMany a_t_met a_t_metSizes p0 p1 = some (w0, w1, w2)) : Met l yX9_meets wsX9_meets ({ frames := 0, cells := 0, slots := 0, locals := 0 }) (k_pre G (k_T cI cJ cD cH) [(h_t, .inr (8, [.int t_genus, .int t_marks, .ref h_t_powers, .int t_leaves, .int t_splits, .ref h_t_tree, .ref h_t_ahead, .ref h_t_behind, .ref h_t_before, .int t_done, .int t_undone, .ref h_t_rows, .ref h_t_met, .ref h_t_metSizes, .int t_metMany, .int t_treesSeen, .ref h_t_chosen, .ref h_t_tape, .int t_taped, .int t_place, .int t_isWrong, .int t_toldGenus, .int t_toldMarks, .ref h_t_toldPowers, .ref h_t_powerPlaces, .int t_isTree, .int t_toldLeaves, .int t_leavesPlace, .int t_toldSplits, .ref h_t_toldTree, .ref h_t_splitPlaces, .ref h_t_layers, .int t_isWhy, .ref h_t_paper, .int t_papered, .ref h_t_held, .ref h_t_numbers, .ref h_t_sizes, .ref h_t_heldLeaves, .ref h_t_items, .ref h_t_kept, .int t_isKept])), (h_t_met, .inl (cI, 36000, .inl a_t_met)), (h_t_metSizes, .inl (cI, 3000, .inl a_t_metSizes))] sz [.ref h_t, .int p0, .int p1]) (va_Qv (fun (_ : Unit) => True) (fun _ t => va_P G vwCl [(h_t, .inr (8, [.int t_genus, .int t_marks, .ref h_t_powers, .int t_leaves, .int t_splits, .ref h_t_tree, .ref h_t_ahead, .ref h_t_behind, .ref h_t_before, .int t_done, .int t_undone, .ref h_t_rows, .ref h_t_met, .ref h_t_metSizes, .int w2, .int t_treesSeen, .ref h_t_chosen, .ref h_t_tape, .int t_taped, .int t_place, .int t_isWrong, .int t_toldGenus, .int t_toldMarks, .ref h_t_toldPowers, .ref h_t_powerPlaces, .int t_isTree, .int t_toldLeaves, .int t_leavesPlace, .int t_toldSplits, .ref h_t_toldTree, .ref h_t_splitPlaces, .ref h_t_layers, .int t_isWhy, .ref h_t_paper, .int t_papered, .ref h_t_held, .ref h_t_numbers, .ref h_t_sizes, .ref h_t_heldLeaves, .ref h_t_items, .ref h_t_kept, .int t_isKept])), (h_t_met, .inl (cI, 36000, .inl w0)), (h_t_metSizes, .inl (cI, 3000, .inl w1))] t.heap) (va_A [(h_t, .inr (8, [.int t_genus, .int t_marks, .ref h_t_powers, .int t_leaves, .int t_splits, .ref h_t_tree, .ref h_t_ahead, .ref h_t_behind, .ref h_t_before, .int t_done, .int t_undone, .ref h_t_rows, .ref h_t_met, .ref h_t_metSizes, .int t_metMany, .int t_treesSeen, .ref h_t_chosen, .ref h_t_tape, .int t_taped, .int t_place, .int t_isWrong, .int t_toldGenus, .int t_toldMarks, .ref h_t_toldPowers, .ref h_t_powerPlaces, .int t_isTree, .int t_toldLeaves, .int t_leavesPlace, .int t_toldSplits, .ref h_t_toldTree, .ref h_t_splitPlaces, .ref h_t_layers, .int t_isWhy, .ref h_t_paper, .int t_papered, .ref h_t_held, .ref h_t_numbers, .ref h_t_sizes, .ref h_t_heldLeaves, .ref h_t_items, .ref h_t_kept, .int t_isKept])), (h_t_met, .inl (cI, 36000, .inl a_t_met)), (h_t_metSizes, .inl (cI, 3000, .inl a_t_metSizes))] sz)) 0 0 (va_A [(h_t, .inr (8, [.int t_genus, .int t_marks, .ref h_t_powers, .int t_leaves, .int t_splits, .ref h_t_tree, .ref h_t_ahead, .ref h_t_behind, .ref h_t_before, .int t_done, .int t_undone, .ref h_t_rows, .ref h_t_met, .ref h_t_metSizes, .int t_metMany, .int t_treesSeen, .ref h_t_chosen, .ref h_t_tape, .int t_taped, .int t_place, .int t_isWrong, .int t_toldGenus, .int t_toldMarks, .ref h_t_toldPowers, .ref h_t_powerPlaces, .int t_isTree, .int t_toldLeaves, .int t_leavesPlace, .int t_toldSplits, .ref h_t_toldTree, .ref h_t_splitPlaces, .ref h_t_layers, .int t_isWhy, .ref h_t_paper, .int t_papered, .ref h_t_held, .ref h_t_numbers, .ref h_t_sizes, .ref h_t_heldLeaves, .ref h_t_items, .ref h_t_kept, .int t_isKept])), (h_t_met, .inl (cI, 36000, .inl a_t_met)), (h_t_metSizes, .inl (cI, 3000, .inl a_t_metSizes))] sz) := by
  refine Met.ofW (cc := cX9_meets) (maxL := 6) (ret := none) (by decide) rfl ?_
  intro p e s m args below meth c s₁ B hml hv
  obtain ⟨rfl, hsz, hP, hK, hD0⟩ := hv
  have hx := B.exec
  have hb := B.bytes
  have hr := B.returns
  have hts := atoms_spec (ws := wsX9_meets) B.pre
  have hta : ∀ w ∈ wA, w.before ([.ref h_t, .int p0, .int p1] : List Value).toArray s = true := hta_of hts
  have hown : s.vm.findClass RX9 = some m.cls := findClass_of_methodNamed B.named
  have hlocks := B.notSynchronized
  subst hsz
  have hD := hD0.self (sz := s.heap.size)
  generalize hAe : va_A [(h_t, .inr (8, [.int t_genus, .int t_marks, .ref h_t_powers, .int t_leaves, .int t_splits, .ref h_t_tree, .ref h_t_ahead, .ref h_t_behind, .ref h_t_before, .int t_done, .int t_undone, .ref h_t_rows, .ref h_t_met, .ref h_t_metSizes, .int t_metMany, .int t_treesSeen, .ref h_t_chosen, .ref h_t_tape, .int t_taped, .int t_place, .int t_isWrong, .int t_toldGenus, .int t_toldMarks, .ref h_t_toldPowers, .ref h_t_powerPlaces, .int t_isTree, .int t_toldLeaves, .int t_leavesPlace, .int t_toldSplits, .ref h_t_toldTree, .ref h_t_splitPlaces, .ref h_t_layers, .int t_isWhy, .ref h_t_paper, .int t_papered, .ref h_t_held, .ref h_t_numbers, .ref h_t_sizes, .ref h_t_heldLeaves, .ref h_t_items, .ref h_t_kept, .int t_isKept])), (h_t_met, .inl (cI, 36000, .inl a_t_met)), (h_t_metSizes, .inl (cI, 3000, .inl a_t_metSizes))] s.heap.size = A at hD ⊢
  have hA : ∀ q : Nat, s.heap.size ≤ q → A q := fun q h => by rw [← hAe]; exact Or.inr h
  have hS : va_S A s.heap s.heap [] := va_S.rf
  have hl := lv_entry ([.ref h_t, .int p0, .int p1]) (n := 6) (Nat.le_of_ble_eq_true rfl)
  rw [lg_entry_eq]
  generalize (lg_sl ([.ref h_t, .int p0, .int p1]) ++ List.replicate (6 - (lg_sl ([.ref h_t, .int p0, .int p1])).length) Slot.unset).toArray = ls at hl ⊢
  have hl : lv_has ls 6 [(0, .ref h_t), (1, .int p0), (2, .int p1)] := hl
  have hinX9 : ∀ w ∈ wsX90, w ∈ wsX9_meets := hin_of in_X9
  have h := hF
  unfold F_X9_meets at h
  refine lv_iconst (v := (1 : Int32)) hx hb dX9_meets_0 (by decide) ?_
  refine lv_istore_n (lv' := [(3, .int (1 : Int32)), (0, .ref h_t), (1, .int p0), (2, .int p1)]) hx hb dX9_meets_1 rfl hl (by decide) rfl (fun ls hl => ?_)
  have hL2 : ∀ (n2 : Nat) (vL2_0 : Nat → Int32) (vL2_1 : Int32) (H : Heap) (locs : List Loc) (ls : Array Slot), va_P G vwCl [(h_t, .inr (8, [.int t_genus, .int t_marks, .ref h_t_powers, .int t_leaves, .int t_splits, .ref h_t_tree, .ref h_t_ahead, .ref h_t_behind, .ref h_t_before, .int t_done, .int t_undone, .ref h_t_rows, .ref h_t_met, .ref h_t_metSizes, .int t_metMany, .int t_treesSeen, .ref h_t_chosen, .ref h_t_tape, .int t_taped, .int t_place, .int t_isWrong, .int t_toldGenus, .int t_toldMarks, .ref h_t_toldPowers, .ref h_t_powerPlaces, .int t_isTree, .int t_toldLeaves, .int t_leavesPlace, .int t_toldSplits, .ref h_t_toldTree, .ref h_t_splitPlaces, .ref h_t_layers, .int t_isWhy, .ref h_t_paper, .int t_papered, .ref h_t_held, .ref h_t_numbers, .ref h_t_sizes, .ref h_t_heldLeaves, .ref h_t_items, .ref h_t_kept, .int t_isKept])), (h_t_met, .inl (cI, 36000, .inl vL2_0)), (h_t_metSizes, .inl (cI, 3000, .inl a_t_metSizes))] H → va_D A [(h_t, .inr (8, [.int t_genus, .int t_marks, .ref h_t_powers, .int t_leaves, .int t_splits, .ref h_t_tree, .ref h_t_ahead, .ref h_t_behind, .ref h_t_before, .int t_done, .int t_undone, .ref h_t_rows, .ref h_t_met, .ref h_t_metSizes, .int t_metMany, .int t_treesSeen, .ref h_t_chosen, .ref h_t_tape, .int t_taped, .int t_place, .int t_isWrong, .int t_toldGenus, .int t_toldMarks, .ref h_t_toldPowers, .ref h_t_powerPlaces, .int t_isTree, .int t_toldLeaves, .int t_leavesPlace, .int t_toldSplits, .ref h_t_toldTree, .ref h_t_splitPlaces, .ref h_t_layers, .int t_isWhy, .ref h_t_paper, .int t_papered, .ref h_t_held, .ref h_t_numbers, .ref h_t_sizes, .ref h_t_heldLeaves, .ref h_t_items, .ref h_t_kept, .int t_isKept])), (h_t_met, .inl (cI, 36000, .inl vL2_0)), (h_t_metSizes, .inl (cI, 3000, .inl a_t_metSizes))] → va_S A s.heap H locs → lv_has ls 6 [(0, .ref h_t), (1, .int p0), (2, .int p1), (3, .int vL2_1)] → wq2 (B_X9_meets_2 p0 p1 (K_X9_meets_2_94 t_metMany a_t_metSizes p0 p1)) n2 vL2_0 vL2_1 = some (w0, w1, w2) → W p l e (headSpec wsX9_meets ({ frames := 0, cells := 0, slots := 0, locals := 0 })).room s m ([.ref h_t, .int p0, .int p1] : List Value).toArray below meth c H locs 0 0 (MQ below (va_Qv (fun (_ : Unit) => True) (fun _ t => va_P G vwCl [(h_t, .inr (8, [.int t_genus, .int t_marks, .ref h_t_powers, .int t_leaves, .int t_splits, .ref h_t_tree, .ref h_t_ahead, .ref h_t_behind, .ref h_t_before, .int t_done, .int t_undone, .ref h_t_rows, .ref h_t_met, .ref h_t_metSizes, .int w2, .int t_treesSeen, .ref h_t_chosen, .ref h_t_tape, .int t_taped, .int t_place, .int t_isWrong, .int t_toldGenus, .int t_toldMarks, .ref h_t_toldPowers, .ref h_t_powerPlaces, .int t_isTree, .int t_toldLeaves, .int t_leavesPlace, .int t_toldSplits, .ref h_t_toldTree, .ref h_t_splitPlaces, .ref h_t_layers, .int t_isWhy, .ref h_t_paper, .int t_papered, .ref h_t_held, .ref h_t_numbers, .ref h_t_sizes, .ref h_t_heldLeaves, .ref h_t_items, .ref h_t_kept, .int t_isKept])), (h_t_met, .inl (cI, 36000, .inl w0)), (h_t_metSizes, .inl (cI, 3000, .inl w1))] t.heap) A) ([.ref h_t, .int p0, .int p1] : List Value).toArray s 0 0 A) (F0 m 2 ls []) := by
    intro n2
    induction n2 with
    | zero => intro vL2_0 vL2_1 H locs ls hP hD hS hl h; exact wq2_0 h
    | succ n2 ih2 =>
      intro vL2_0 vL2_1 H locs ls hP hD hS hl h
      have h := wq2_s h
      unfold B_X9_meets_2 at h
      refine lv_iload_n hx hb dX9_meets_2 rfl (lv_at hl 3 rfl) ?_
      refine lv_iload_n hx hb dX9_meets_3 rfl (lv_at hl 2 rfl) ?_
      refine lv_icmp_ge (tgt := 94) hx hb dX9_meets_4 (by decide) (fun c17 => ?_) (fun c17 => ?_)
      · have h := it_p h c17
        exact tK_X9_meets_2_94 hx hb hr hml hts hown hlocks hK hA vL2_0 _ _ _ hP hD hS (lv_sub hl [0, 1, 2] rfl) h
      have h := it_n h c17
      refine lv_iload_n hx hb dX9_meets_7 rfl (lv_at hl 3 rfl) ?_
      refine lv_istore (lv' := [(4, .int vL2_1), (0, .ref h_t), (1, .int p0), (2, .int p1), (3, .int vL2_1)]) hx hb dX9_meets_8 hl (by decide) rfl (fun ls hl => ?_)
      have hK_X9_meets_10_88 : ∀  (vK10_88_0 : Nat → Int32) (H : Heap) (locs : List Loc) (ls : Array Slot), va_P G vwCl [(h_t, .inr (8, [.int t_genus, .int t_marks, .ref h_t_powers, .int t_leaves, .int t_splits, .ref h_t_tree, .ref h_t_ahead, .ref h_t_behind, .ref h_t_before, .int t_done, .int t_undone, .ref h_t_rows, .ref h_t_met, .ref h_t_metSizes, .int t_metMany, .int t_treesSeen, .ref h_t_chosen, .ref h_t_tape, .int t_taped, .int t_place, .int t_isWrong, .int t_toldGenus, .int t_toldMarks, .ref h_t_toldPowers, .ref h_t_powerPlaces, .int t_isTree, .int t_toldLeaves, .int t_leavesPlace, .int t_toldSplits, .ref h_t_toldTree, .ref h_t_splitPlaces, .ref h_t_layers, .int t_isWhy, .ref h_t_paper, .int t_papered, .ref h_t_held, .ref h_t_numbers, .ref h_t_sizes, .ref h_t_heldLeaves, .ref h_t_items, .ref h_t_kept, .int t_isKept])), (h_t_met, .inl (cI, 36000, .inl vK10_88_0)), (h_t_metSizes, .inl (cI, 3000, .inl a_t_metSizes))] H → va_D A [(h_t, .inr (8, [.int t_genus, .int t_marks, .ref h_t_powers, .int t_leaves, .int t_splits, .ref h_t_tree, .ref h_t_ahead, .ref h_t_behind, .ref h_t_before, .int t_done, .int t_undone, .ref h_t_rows, .ref h_t_met, .ref h_t_metSizes, .int t_metMany, .int t_treesSeen, .ref h_t_chosen, .ref h_t_tape, .int t_taped, .int t_place, .int t_isWrong, .int t_toldGenus, .int t_toldMarks, .ref h_t_toldPowers, .ref h_t_powerPlaces, .int t_isTree, .int t_toldLeaves, .int t_leavesPlace, .int t_toldSplits, .ref h_t_toldTree, .ref h_t_splitPlaces, .ref h_t_layers, .int t_isWhy, .ref h_t_paper, .int t_papered, .ref h_t_held, .ref h_t_numbers, .ref h_t_sizes, .ref h_t_heldLeaves, .ref h_t_items, .ref h_t_kept, .int t_isKept])), (h_t_met, .inl (cI, 36000, .inl vK10_88_0)), (h_t_metSizes, .inl (cI, 3000, .inl a_t_metSizes))] → va_S A s.heap H locs → lv_has ls 6 [(0, .ref h_t), (1, .int p0), (2, .int p1), (3, .int vL2_1)] → K_X9_meets_10_88 vL2_1 (wq2 (B_X9_meets_2 p0 p1 (K_X9_meets_2_94 t_metMany a_t_metSizes p0 p1)) n2) vK10_88_0 = some (w0, w1, w2) → W p l e (headSpec wsX9_meets ({ frames := 0, cells := 0, slots := 0, locals := 0 })).room s m ([.ref h_t, .int p0, .int p1] : List Value).toArray below meth c H locs 0 0 (MQ below (va_Qv (fun (_ : Unit) => True) (fun _ t => va_P G vwCl [(h_t, .inr (8, [.int t_genus, .int t_marks, .ref h_t_powers, .int t_leaves, .int t_splits, .ref h_t_tree, .ref h_t_ahead, .ref h_t_behind, .ref h_t_before, .int t_done, .int t_undone, .ref h_t_rows, .ref h_t_met, .ref h_t_metSizes, .int w2, .int t_treesSeen, .ref h_t_chosen, .ref h_t_tape, .int t_taped, .int t_place, .int t_isWrong, .int t_toldGenus, .int t_toldMarks, .ref h_t_toldPowers, .ref h_t_powerPlaces, .int t_isTree, .int t_toldLeaves, .int t_leavesPlace, .int t_toldSplits, .ref h_t_toldTree, .ref h_t_splitPlaces, .ref h_t_layers, .int t_isWhy, .ref h_t_paper, .int t_papered, .ref h_t_held, .ref h_t_numbers, .ref h_t_sizes, .ref h_t_heldLeaves, .ref h_t_items, .ref h_t_kept, .int t_isKept])), (h_t_met, .inl (cI, 36000, .inl w0)), (h_t_metSizes, .inl (cI, 3000, .inl w1))] t.heap) A) ([.ref h_t, .int p0, .int p1] : List Value).toArray s 0 0 A) (F0 m 88 ls []) := by
        intro vK10_88_0 H locs ls hP hD hS hl h
        unfold K_X9_meets_10_88 at h
        refine lv_iinc (v := (vL2_1 + (1 : Int32))) (lv' := [(3, .int (vL2_1 + (1 : Int32))), (0, .ref h_t), (1, .int p0), (2, .int p1)]) hx hb dX9_meets_88 hl (k := 3) rfl (by first | rfl | decide) (by decide) rfl (fun ls hl => ?_)
        refine lv_goto (tgt := 2) hx hb dX9_meets_91 (by decide) ?_
        exact ih2 vK10_88_0 (vL2_1 + (1 : Int32)) _ _ _ hP hD hS (lv_sub hl [1, 2, 3, 0] rfl) h
      have hL10 : ∀ (n10 : Nat) (vL10_0 : Nat → Int32) (vL10_1 : Int32) (H : Heap) (locs : List Loc) (ls : Array Slot), va_P G vwCl [(h_t, .inr (8, [.int t_genus, .int t_marks, .ref h_t_powers, .int t_leaves, .int t_splits, .ref h_t_tree, .ref h_t_ahead, .ref h_t_behind, .ref h_t_before, .int t_done, .int t_undone, .ref h_t_rows, .ref h_t_met, .ref h_t_metSizes, .int t_metMany, .int t_treesSeen, .ref h_t_chosen, .ref h_t_tape, .int t_taped, .int t_place, .int t_isWrong, .int t_toldGenus, .int t_toldMarks, .ref h_t_toldPowers, .ref h_t_powerPlaces, .int t_isTree, .int t_toldLeaves, .int t_leavesPlace, .int t_toldSplits, .ref h_t_toldTree, .ref h_t_splitPlaces, .ref h_t_layers, .int t_isWhy, .ref h_t_paper, .int t_papered, .ref h_t_held, .ref h_t_numbers, .ref h_t_sizes, .ref h_t_heldLeaves, .ref h_t_items, .ref h_t_kept, .int t_isKept])), (h_t_met, .inl (cI, 36000, .inl vL10_0)), (h_t_metSizes, .inl (cI, 3000, .inl a_t_metSizes))] H → va_D A [(h_t, .inr (8, [.int t_genus, .int t_marks, .ref h_t_powers, .int t_leaves, .int t_splits, .ref h_t_tree, .ref h_t_ahead, .ref h_t_behind, .ref h_t_before, .int t_done, .int t_undone, .ref h_t_rows, .ref h_t_met, .ref h_t_metSizes, .int t_metMany, .int t_treesSeen, .ref h_t_chosen, .ref h_t_tape, .int t_taped, .int t_place, .int t_isWrong, .int t_toldGenus, .int t_toldMarks, .ref h_t_toldPowers, .ref h_t_powerPlaces, .int t_isTree, .int t_toldLeaves, .int t_leavesPlace, .int t_toldSplits, .ref h_t_toldTree, .ref h_t_splitPlaces, .ref h_t_layers, .int t_isWhy, .ref h_t_paper, .int t_papered, .ref h_t_held, .ref h_t_numbers, .ref h_t_sizes, .ref h_t_heldLeaves, .ref h_t_items, .ref h_t_kept, .int t_isKept])), (h_t_met, .inl (cI, 36000, .inl vL10_0)), (h_t_metSizes, .inl (cI, 3000, .inl a_t_metSizes))] → va_S A s.heap H locs → lv_has ls 6 [(0, .ref h_t), (1, .int p0), (2, .int p1), (3, .int vL2_1), (4, .int vL10_1)] → wq2 (B_X9_meets_10 p0 (K_X9_meets_10_88 vL2_1 (wq2 (B_X9_meets_2 p0 p1 (K_X9_meets_2_94 t_metMany a_t_metSizes p0 p1)) n2))) n10 vL10_0 vL10_1 = some (w0, w1, w2) → W p l e (headSpec wsX9_meets ({ frames := 0, cells := 0, slots := 0, locals := 0 })).room s m ([.ref h_t, .int p0, .int p1] : List Value).toArray below meth c H locs 0 0 (MQ below (va_Qv (fun (_ : Unit) => True) (fun _ t => va_P G vwCl [(h_t, .inr (8, [.int t_genus, .int t_marks, .ref h_t_powers, .int t_leaves, .int t_splits, .ref h_t_tree, .ref h_t_ahead, .ref h_t_behind, .ref h_t_before, .int t_done, .int t_undone, .ref h_t_rows, .ref h_t_met, .ref h_t_metSizes, .int w2, .int t_treesSeen, .ref h_t_chosen, .ref h_t_tape, .int t_taped, .int t_place, .int t_isWrong, .int t_toldGenus, .int t_toldMarks, .ref h_t_toldPowers, .ref h_t_powerPlaces, .int t_isTree, .int t_toldLeaves, .int t_leavesPlace, .int t_toldSplits, .ref h_t_toldTree, .ref h_t_splitPlaces, .ref h_t_layers, .int t_isWhy, .ref h_t_paper, .int t_papered, .ref h_t_held, .ref h_t_numbers, .ref h_t_sizes, .ref h_t_heldLeaves, .ref h_t_items, .ref h_t_kept, .int t_isKept])), (h_t_met, .inl (cI, 36000, .inl w0)), (h_t_metSizes, .inl (cI, 3000, .inl w1))] t.heap) A) ([.ref h_t, .int p0, .int p1] : List Value).toArray s 0 0 A) (F0 m 10 ls []) := by
        intro n10
        induction n10 with
        | zero => intro vL10_0 vL10_1 H locs ls hP hD hS hl h; exact wq2_0 h
        | succ n10 ih10 =>
          intro vL10_0 vL10_1 H locs ls hP hD hS hl h
          have h := wq2_s h
          unfold B_X9_meets_10 at h
          refine lv_iload hx hb dX9_meets_10 (lv_at hl 4 rfl) ?_
          refine lv_if_le (tgt := 88) hx hb dX9_meets_12 (by decide) (fun c18 => ?_) (fun c18 => ?_)
          · have h := it_p h c18
            exact hK_X9_meets_10_88 vL10_0 _ _ _ hP hD hS (lv_sub hl [0, 1, 2, 3] rfl) h
          have h := it_n h c18
          refine lv_aload_n hx hb dX9_meets_15 rfl (lv_at hl 0 rfl) ?_
          refine va_get (D := G) (ci := 8) (v := .ref h_t_met) (C := RX9) (T := TX9) (N := 42) hx hb hts hinX9 hown hK hP 0 rfl rfl 12 (by decide) (hta _ mw_616) (fun _ h9 => h9) rfl dX9_meets_16 ?_
          refine lv_iload_n hx hb dX9_meets_19 rfl (lv_at hl 1 rfl) ?_
          refine lv_iload hx hb dX9_meets_20 (lv_at hl 4 rfl) ?_
          refine lv_iadd hx hb dX9_meets_22 ?_
          refine lv_iconst (v := (1 : Int32)) hx hb dX9_meets_23 (by decide) ?_
          refine lv_isub hx hb dX9_meets_24 ?_
          obtain ⟨hn19, h⟩ := ck_e h
          refine va_iald hx hb hK hP 1 0 rfl rfl hn19 dX9_meets_25 ?_
          refine lv_aload_n hx hb dX9_meets_26 rfl (lv_at hl 0 rfl) ?_
          refine va_get (D := G) (ci := 8) (v := .ref h_t_met) (C := RX9) (T := TX9) (N := 42) hx hb hts hinX9 hown hK hP 0 rfl rfl 12 (by decide) (hta _ mw_616) (fun _ h9 => h9) rfl dX9_meets_27 ?_
          refine lv_iload_n hx hb dX9_meets_30 rfl (lv_at hl 1 rfl) ?_
          refine lv_iload hx hb dX9_meets_31 (lv_at hl 4 rfl) ?_
          refine lv_iadd hx hb dX9_meets_33 ?_
          obtain ⟨hn20, h⟩ := ck_e h
          refine va_iald hx hb hK hP 1 0 rfl rfl hn20 dX9_meets_34 ?_
          refine lv_icmp_le (tgt := 88) hx hb dX9_meets_35 (by decide) (fun c21 => ?_) (fun c21 => ?_)
          · have h := it_p h c21
            exact hK_X9_meets_10_88 vL10_0 _ _ _ hP hD hS (lv_sub hl [0, 1, 2, 3] rfl) h
          have h := it_n h c21
          refine lv_aload_n hx hb dX9_meets_38 rfl (lv_at hl 0 rfl) ?_
          refine va_get (D := G) (ci := 8) (v := .ref h_t_met) (C := RX9) (T := TX9) (N := 42) hx hb hts hinX9 hown hK hP 0 rfl rfl 12 (by decide) (hta _ mw_616) (fun _ h9 => h9) rfl dX9_meets_39 ?_
          refine lv_iload_n hx hb dX9_meets_42 rfl (lv_at hl 1 rfl) ?_
          refine lv_iload hx hb dX9_meets_43 (lv_at hl 4 rfl) ?_
          refine lv_iadd hx hb dX9_meets_45 ?_
          obtain ⟨hn22, h⟩ := ck_e h
          refine va_iald hx hb hK hP 1 0 rfl rfl hn22 dX9_meets_46 ?_
          refine lv_istore (lv' := [(5, .int (vL10_0 (p0 + vL10_1).toNatClampNeg)), (0, .ref h_t), (1, .int p0), (2, .int p1), (3, .int vL2_1), (4, .int vL10_1)]) hx hb dX9_meets_47 hl (by decide) rfl (fun ls hl => ?_)
          refine lv_aload_n hx hb dX9_meets_49 rfl (lv_at hl 1 rfl) ?_
          refine va_get (D := G) (ci := 8) (v := .ref h_t_met) (C := RX9) (T := TX9) (N := 42) hx hb hts hinX9 hown hK hP 0 rfl rfl 12 (by decide) (hta _ mw_616) (fun _ h9 => h9) rfl dX9_meets_50 ?_
          refine lv_iload_n hx hb dX9_meets_53 rfl (lv_at hl 2 rfl) ?_
          refine lv_iload hx hb dX9_meets_54 (lv_at hl 5 rfl) ?_
          refine lv_iadd hx hb dX9_meets_56 ?_
          refine lv_aload_n hx hb dX9_meets_57 rfl (lv_at hl 1 rfl) ?_
          refine va_get (D := G) (ci := 8) (v := .ref h_t_met) (C := RX9) (T := TX9) (N := 42) hx hb hts hinX9 hown hK hP 0 rfl rfl 12 (by decide) (hta _ mw_616) (fun _ h9 => h9) rfl dX9_meets_58 ?_
          refine lv_iload_n hx hb dX9_meets_61 rfl (lv_at hl 2 rfl) ?_
          refine lv_iload hx hb dX9_meets_62 (lv_at hl 5 rfl) ?_
          refine lv_iadd hx hb dX9_meets_64 ?_
          refine lv_iconst (v := (1 : Int32)) hx hb dX9_meets_65 (by decide) ?_
          refine lv_isub hx hb dX9_meets_66 ?_
          obtain ⟨hn23, h⟩ := ck_e h
          refine va_iald hx hb hK hP 1 0 rfl rfl hn23 dX9_meets_67 ?_
          obtain ⟨hn24, h⟩ := ck_e h
          refine va_iast hx hb hK hP hD hS 1 0 rfl rfl hn24 dX9_meets_68 (fun H locs hP hD hS => ?_)
          have hP : va_P G vwCl [(h_t, .inr (8, [.int t_genus, .int t_marks, .ref h_t_powers, .int t_leaves, .int t_splits, .ref h_t_tree, .ref h_t_ahead, .ref h_t_behind, .ref h_t_before, .int t_done, .int t_undone, .ref h_t_rows, .ref h_t_met, .ref h_t_metSizes, .int t_metMany, .int t_treesSeen, .ref h_t_chosen, .ref h_t_tape, .int t_taped, .int t_place, .int t_isWrong, .int t_toldGenus, .int t_toldMarks, .ref h_t_toldPowers, .ref h_t_powerPlaces, .int t_isTree, .int t_toldLeaves, .int t_leavesPlace, .int t_toldSplits, .ref h_t_toldTree, .ref h_t_splitPlaces, .ref h_t_layers, .int t_isWhy, .ref h_t_paper, .int t_papered, .ref h_t_held, .ref h_t_numbers, .ref h_t_sizes, .ref h_t_heldLeaves, .ref h_t_items, .ref h_t_kept, .int t_isKept])), (h_t_met, .inl (cI, 36000, .inl (upd vL10_0 (p0 + vL10_1).toNatClampNeg (vL10_0 ((p0 + vL10_1) - (1 : Int32)).toNatClampNeg)))), (h_t_metSizes, .inl (cI, 3000, .inl a_t_metSizes))] H := hP
          have hD : va_D A [(h_t, .inr (8, [.int t_genus, .int t_marks, .ref h_t_powers, .int t_leaves, .int t_splits, .ref h_t_tree, .ref h_t_ahead, .ref h_t_behind, .ref h_t_before, .int t_done, .int t_undone, .ref h_t_rows, .ref h_t_met, .ref h_t_metSizes, .int t_metMany, .int t_treesSeen, .ref h_t_chosen, .ref h_t_tape, .int t_taped, .int t_place, .int t_isWrong, .int t_toldGenus, .int t_toldMarks, .ref h_t_toldPowers, .ref h_t_powerPlaces, .int t_isTree, .int t_toldLeaves, .int t_leavesPlace, .int t_toldSplits, .ref h_t_toldTree, .ref h_t_splitPlaces, .ref h_t_layers, .int t_isWhy, .ref h_t_paper, .int t_papered, .ref h_t_held, .ref h_t_numbers, .ref h_t_sizes, .ref h_t_heldLeaves, .ref h_t_items, .ref h_t_kept, .int t_isKept])), (h_t_met, .inl (cI, 36000, .inl (upd vL10_0 (p0 + vL10_1).toNatClampNeg (vL10_0 ((p0 + vL10_1) - (1 : Int32)).toNatClampNeg)))), (h_t_metSizes, .inl (cI, 3000, .inl a_t_metSizes))] := hD
          refine lv_aload_n hx hb dX9_meets_69 rfl (lv_at hl 1 rfl) ?_
          refine va_get (D := G) (ci := 8) (v := .ref h_t_met) (C := RX9) (T := TX9) (N := 42) hx hb hts hinX9 hown hK hP 0 rfl rfl 12 (by decide) (hta _ mw_616) (fun _ h9 => h9) rfl dX9_meets_70 ?_
          refine lv_iload_n hx hb dX9_meets_73 rfl (lv_at hl 2 rfl) ?_
          refine lv_iload hx hb dX9_meets_74 (lv_at hl 5 rfl) ?_
          refine lv_iadd hx hb dX9_meets_76 ?_
          refine lv_iconst (v := (1 : Int32)) hx hb dX9_meets_77 (by decide) ?_
          refine lv_isub hx hb dX9_meets_78 ?_
          refine lv_iload hx hb dX9_meets_79 (lv_at hl 0 rfl) ?_
          obtain ⟨hn25, h⟩ := ck_e h
          refine va_iast hx hb hK hP hD hS 1 0 rfl rfl hn25 dX9_meets_81 (fun H locs hP hD hS => ?_)
          have hP : va_P G vwCl [(h_t, .inr (8, [.int t_genus, .int t_marks, .ref h_t_powers, .int t_leaves, .int t_splits, .ref h_t_tree, .ref h_t_ahead, .ref h_t_behind, .ref h_t_before, .int t_done, .int t_undone, .ref h_t_rows, .ref h_t_met, .ref h_t_metSizes, .int t_metMany, .int t_treesSeen, .ref h_t_chosen, .ref h_t_tape, .int t_taped, .int t_place, .int t_isWrong, .int t_toldGenus, .int t_toldMarks, .ref h_t_toldPowers, .ref h_t_powerPlaces, .int t_isTree, .int t_toldLeaves, .int t_leavesPlace, .int t_toldSplits, .ref h_t_toldTree, .ref h_t_splitPlaces, .ref h_t_layers, .int t_isWhy, .ref h_t_paper, .int t_papered, .ref h_t_held, .ref h_t_numbers, .ref h_t_sizes, .ref h_t_heldLeaves, .ref h_t_items, .ref h_t_kept, .int t_isKept])), (h_t_met, .inl (cI, 36000, .inl (upd (upd vL10_0 (p0 + vL10_1).toNatClampNeg (vL10_0 ((p0 + vL10_1) - (1 : Int32)).toNatClampNeg)) ((p0 + vL10_1) - (1 : Int32)).toNatClampNeg (vL10_0 (p0 + vL10_1).toNatClampNeg)))), (h_t_metSizes, .inl (cI, 3000, .inl a_t_metSizes))] H := hP
          have hD : va_D A [(h_t, .inr (8, [.int t_genus, .int t_marks, .ref h_t_powers, .int t_leaves, .int t_splits, .ref h_t_tree, .ref h_t_ahead, .ref h_t_behind, .ref h_t_before, .int t_done, .int t_undone, .ref h_t_rows, .ref h_t_met, .ref h_t_metSizes, .int t_metMany, .int t_treesSeen, .ref h_t_chosen, .ref h_t_tape, .int t_taped, .int t_place, .int t_isWrong, .int t_toldGenus, .int t_toldMarks, .ref h_t_toldPowers, .ref h_t_powerPlaces, .int t_isTree, .int t_toldLeaves, .int t_leavesPlace, .int t_toldSplits, .ref h_t_toldTree, .ref h_t_splitPlaces, .ref h_t_layers, .int t_isWhy, .ref h_t_paper, .int t_papered, .ref h_t_held, .ref h_t_numbers, .ref h_t_sizes, .ref h_t_heldLeaves, .ref h_t_items, .ref h_t_kept, .int t_isKept])), (h_t_met, .inl (cI, 36000, .inl (upd (upd vL10_0 (p0 + vL10_1).toNatClampNeg (vL10_0 ((p0 + vL10_1) - (1 : Int32)).toNatClampNeg)) ((p0 + vL10_1) - (1 : Int32)).toNatClampNeg (vL10_0 (p0 + vL10_1).toNatClampNeg)))), (h_t_metSizes, .inl (cI, 3000, .inl a_t_metSizes))] := hD
          refine lv_iinc (v := (vL10_1 + (-1 : Int32))) (lv' := [(4, .int (vL10_1 + (-1 : Int32))), (5, .int (vL10_0 (p0 + vL10_1).toNatClampNeg)), (0, .ref h_t), (1, .int p0), (2, .int p1), (3, .int vL2_1)]) hx hb dX9_meets_82 hl (k := 5) rfl (by first | rfl | decide) (by decide) rfl (fun ls hl => ?_)
          refine lv_goto (tgt := 10) hx hb dX9_meets_85 (by decide) ?_
          exact ih10 (upd (upd vL10_0 (p0 + vL10_1).toNatClampNeg (vL10_0 ((p0 + vL10_1) - (1 : Int32)).toNatClampNeg)) ((p0 + vL10_1) - (1 : Int32)).toNatClampNeg (vL10_0 (p0 + vL10_1).toNatClampNeg)) (vL10_1 + (-1 : Int32)) _ _ _ hP hD hS (lv_sub hl [2, 3, 4, 5, 0] rfl) h
      exact hL10 FU vL2_0 vL2_1 _ _ _ hP hD hS (lv_sub hl [1, 2, 3, 4, 0] rfl) h
  exact hL2 FU a_t_met (1 : Int32) _ _ _ hP hD hS (lv_sub hl [1, 2, 3, 0] rfl) h

/-! X9_met -/
set_option maxHeartbeats 4000000 in
set_option maxRecDepth 100000 in
theorem tK_X9_met_53_214 {l : Launch} {G : va_G} {cI cJ cD cH : ClassId} {h_t : Nat} {h_t_rows : Nat} {h_t_powers : Nat} {h_t_met : Nat} {h_t_metSizes : Nat} {h_t_tree : Nat} {h_t_ahead : Nat} {h_t_behind : Nat} {h_t_before : Nat} {h_t_chosen : Nat} {h_t_tape : Nat} {h_t_toldPowers : Nat} {h_t_powerPlaces : Nat} {h_t_toldTree : Nat} {h_t_splitPlaces : Nat} {h_t_layers : Nat} {h_t_paper : Nat} {h_t_held : Nat} {h_t_numbers : Nat} {h_t_sizes : Nat} {h_t_heldLeaves : Nat} {h_t_items : Nat} {h_t_kept : Nat} {t_genus : Int32} {t_marks : Int32} {t_leaves : Int32} {t_splits : Int32} {t_done : Int32} {t_undone : Int32} {t_treesSeen : Int32} {t_taped : Int32} {t_place : Int32} {t_isWrong : Int32} {t_toldGenus : Int32} {t_toldMarks : Int32} {t_isTree : Int32} {t_toldLeaves : Int32} {t_leavesPlace : Int32} {t_toldSplits : Int32} {t_isWhy : Int32} {t_papered : Int32} {t_isKept : Int32} {a_t_powers : Nat → Int32} {r0 : Int32} {w0 : Nat → Int32} {w1 : Nat → Int32} {w2 : Nat → Int32} {w3 : Int32} {x1 : Int32 × (Nat → Int32)} {p : Program} {e : Env} {s : State} {m : MethodId} {below : List Frame} {meth : Method} {c : Code} {A : Nat → Prop} (hx : p.tables.exec = Jvm.exec) (hb : c.code = cX9_met) (hr : meth.sig.returnType = (some .int)) (hml : c.maxLocals = 5) (hts : ∀ w ∈ wsX9_met, w.before ([.ref h_t] : List Value).toArray s = true) (hown : s.vm.findClass RX9 = some m.cls) (hlocks : meth.locks = false) (hK : va_K G vwCl (k_T cI cJ cD cH) s) (hA : ∀ q : Nat, s.heap.size ≤ q → A q) : ∀  (vK53_214_0 : Nat → Int32) (vK53_214_1 : Nat → Int32) (vK53_214_2 : Int32) (H : Heap) (locs : List Loc) (ls : Array Slot), va_P G vwCl [(h_t, .inr (8, [.int t_genus, .int t_marks, .ref h_t_powers, .int t_leaves, .int t_splits, .ref h_t_tree, .ref h_t_ahead, .ref h_t_behind, .ref h_t_before, .int t_done, .int t_undone, .ref h_t_rows, .ref h_t_met, .ref h_t_metSizes, .int vK53_214_2, .int t_treesSeen, .ref h_t_chosen, .ref h_t_tape, .int t_taped, .int t_place, .int t_isWrong, .int t_toldGenus, .int t_toldMarks, .ref h_t_toldPowers, .ref h_t_powerPlaces, .int t_isTree, .int t_toldLeaves, .int t_leavesPlace, .int t_toldSplits, .ref h_t_toldTree, .ref h_t_splitPlaces, .ref h_t_layers, .int t_isWhy, .ref h_t_paper, .int t_papered, .ref h_t_held, .ref h_t_numbers, .ref h_t_sizes, .ref h_t_heldLeaves, .ref h_t_items, .ref h_t_kept, .int t_isKept])), (h_t_rows, .inl (cI, 480, .inl (x1.2))), (h_t_powers, .inl (cI, 8, .inl a_t_powers)), (h_t_met, .inl (cI, 36000, .inl vK53_214_0)), (h_t_metSizes, .inl (cI, 3000, .inl vK53_214_1))] H → va_D A [(h_t, .inr (8, [.int t_genus, .int t_marks, .ref h_t_powers, .int t_leaves, .int t_splits, .ref h_t_tree, .ref h_t_ahead, .ref h_t_behind, .ref h_t_before, .int t_done, .int t_undone, .ref h_t_rows, .ref h_t_met, .ref h_t_metSizes, .int vK53_214_2, .int t_treesSeen, .ref h_t_chosen, .ref h_t_tape, .int t_taped, .int t_place, .int t_isWrong, .int t_toldGenus, .int t_toldMarks, .ref h_t_toldPowers, .ref h_t_powerPlaces, .int t_isTree, .int t_toldLeaves, .int t_leavesPlace, .int t_toldSplits, .ref h_t_toldTree, .ref h_t_splitPlaces, .ref h_t_layers, .int t_isWhy, .ref h_t_paper, .int t_papered, .ref h_t_held, .ref h_t_numbers, .ref h_t_sizes, .ref h_t_heldLeaves, .ref h_t_items, .ref h_t_kept, .int t_isKept])), (h_t_rows, .inl (cI, 480, .inl (x1.2))), (h_t_powers, .inl (cI, 8, .inl a_t_powers)), (h_t_met, .inl (cI, 36000, .inl vK53_214_0)), (h_t_metSizes, .inl (cI, 3000, .inl vK53_214_1))] → va_S A s.heap H locs → lv_has ls 5 [(0, .ref h_t)] → K_X9_met_53_214 x1 vK53_214_0 vK53_214_1 vK53_214_2 = some (r0, w0, w1, w2, w3) → W p l e (headSpec wsX9_met ({ frames := 3, cells := 0, slots := 0, locals := 69 })).room s m ([.ref h_t] : List Value).toArray below meth c H locs 0 0 (MQ below (va_Qi (fun r (_ : Unit) => r = r0 ∧ True) (fun _ t => va_P G vwCl [(h_t, .inr (8, [.int t_genus, .int t_marks, .ref h_t_powers, .int t_leaves, .int t_splits, .ref h_t_tree, .ref h_t_ahead, .ref h_t_behind, .ref h_t_before, .int t_done, .int t_undone, .ref h_t_rows, .ref h_t_met, .ref h_t_metSizes, .int w3, .int t_treesSeen, .ref h_t_chosen, .ref h_t_tape, .int t_taped, .int t_place, .int t_isWrong, .int t_toldGenus, .int t_toldMarks, .ref h_t_toldPowers, .ref h_t_powerPlaces, .int t_isTree, .int t_toldLeaves, .int t_leavesPlace, .int t_toldSplits, .ref h_t_toldTree, .ref h_t_splitPlaces, .ref h_t_layers, .int t_isWhy, .ref h_t_paper, .int t_papered, .ref h_t_held, .ref h_t_numbers, .ref h_t_sizes, .ref h_t_heldLeaves, .ref h_t_items, .ref h_t_kept, .int t_isKept])), (h_t_rows, .inl (cI, 480, .inl w0)), (h_t_powers, .inl (cI, 8, .inl a_t_powers)), (h_t_met, .inl (cI, 36000, .inl w1)), (h_t_metSizes, .inl (cI, 3000, .inl w2))] t.heap) A) ([.ref h_t] : List Value).toArray s 0 0 A) (F0 m 214 ls []) := by
  have hta : ∀ w ∈ wA, w.before ([.ref h_t] : List Value).toArray s = true := hta_of hts
  have hinX9 : ∀ w ∈ wsX90, w ∈ wsX9_met := hin_of in_X9
  intro vK53_214_0 vK53_214_1 vK53_214_2 H locs ls hP hD hS hl h
  unfold K_X9_met_53_214 at h
  refine lv_aload_n hx hb dX9_met_214 rfl (lv_at hl 0 rfl) ?_
  refine va_get (D := G) (ci := 8) (v := .int vK53_214_2) (C := RX9) (T := TX9) (N := 42) hx hb hts hinX9 hown hK hP 0 rfl rfl 14 (by decide) (hta _ mw_723) (fun _ h9 => h9) rfl dX9_met_215 ?_
  have h9 := Option.some.inj h
  have e9 : vK53_214_2 = r0 := congrArg (fun z9 => z9.1) h9
  rw [← e9]
  have e9 : (x1.2) = w0 := congrArg (fun z9 => z9.2.1) h9
  rw [← e9]
  have e9 : vK53_214_0 = w1 := congrArg (fun z9 => z9.2.2.1) h9
  rw [← e9]
  have e9 : vK53_214_1 = w2 := congrArg (fun z9 => z9.2.2.2.1) h9
  rw [← e9]
  have e9 : vK53_214_2 = w3 := congrArg (fun z9 => z9.2.2.2.2) h9
  rw [← e9]
  exact k_iret hx hb hr hlocks hP hS rfl dX9_met_218
set_option maxHeartbeats 4000000 in
set_option maxRecDepth 100000 in
theorem tK_X9_met_16_42 {l : Launch} {G : va_G} {cI cJ cD cH : ClassId} {h_t : Nat} {h_t_rows : Nat} {h_t_powers : Nat} {h_t_met : Nat} {h_t_metSizes : Nat} {h_t_tree : Nat} {h_t_ahead : Nat} {h_t_behind : Nat} {h_t_before : Nat} {h_t_chosen : Nat} {h_t_tape : Nat} {h_t_toldPowers : Nat} {h_t_powerPlaces : Nat} {h_t_toldTree : Nat} {h_t_splitPlaces : Nat} {h_t_layers : Nat} {h_t_paper : Nat} {h_t_held : Nat} {h_t_numbers : Nat} {h_t_sizes : Nat} {h_t_heldLeaves : Nat} {h_t_items : Nat} {h_t_kept : Nat} {t_genus : Int32} {t_marks : Int32} {t_leaves : Int32} {t_splits : Int32} {t_done : Int32} {t_undone : Int32} {t_treesSeen : Int32} {t_taped : Int32} {t_place : Int32} {t_isWrong : Int32} {t_toldGenus : Int32} {t_toldMarks : Int32} {t_isTree : Int32} {t_toldLeaves : Int32} {t_leavesPlace : Int32} {t_toldSplits : Int32} {t_isWhy : Int32} {t_papered : Int32} {t_isKept : Int32} {a_t_powers : Nat → Int32} {a_t_metSizes : Nat → Int32} {r0 : Int32} {w0 : Nat → Int32} {w1 : Nat → Int32} {w2 : Nat → Int32} {w3 : Int32} {x1 : Int32 × (Nat → Int32)} {p : Program} {e : Env} {s : State} {m : MethodId} {below : List Frame} {meth : Method} {c : Code} {A : Nat → Prop} (hx : p.tables.exec = Jvm.exec) (hb : c.code = cX9_met) (hr : meth.sig.returnType = (some .int)) (hml : c.maxLocals = 5) (hts : ∀ w ∈ wsX9_met, w.before ([.ref h_t] : List Value).toArray s = true) (hown : s.vm.findClass RX9 = some m.cls) (hlocks : meth.locks = false) (hK : va_K G vwCl (k_T cI cJ cD cH) s) (hA : ∀ q : Nat, s.heap.size ≤ q → A q) : ∀  (vK16_42_0 : Nat → Int32) (H : Heap) (locs : List Loc) (ls : Array Slot), va_P G vwCl [(h_t, .inr (8, [.int t_genus, .int t_marks, .ref h_t_powers, .int t_leaves, .int t_splits, .ref h_t_tree, .ref h_t_ahead, .ref h_t_behind, .ref h_t_before, .int t_done, .int t_undone, .ref h_t_rows, .ref h_t_met, .ref h_t_metSizes, .int (0 : Int32), .int t_treesSeen, .ref h_t_chosen, .ref h_t_tape, .int t_taped, .int t_place, .int t_isWrong, .int t_toldGenus, .int t_toldMarks, .ref h_t_toldPowers, .ref h_t_powerPlaces, .int t_isTree, .int t_toldLeaves, .int t_leavesPlace, .int t_toldSplits, .ref h_t_toldTree, .ref h_t_splitPlaces, .ref h_t_layers, .int t_isWhy, .ref h_t_paper, .int t_papered, .ref h_t_held, .ref h_t_numbers, .ref h_t_sizes, .ref h_t_heldLeaves, .ref h_t_items, .ref h_t_kept, .int t_isKept])), (h_t_rows, .inl (cI, 480, .inl (x1.2))), (h_t_powers, .inl (cI, 8, .inl a_t_powers)), (h_t_met, .inl (cI, 36000, .inl vK16_42_0)), (h_t_metSizes, .inl (cI, 3000, .inl a_t_metSizes))] H → va_D A [(h_t, .inr (8, [.int t_genus, .int t_marks, .ref h_t_powers, .int t_leaves, .int t_splits, .ref h_t_tree, .ref h_t_ahead, .ref h_t_behind, .ref h_t_before, .int t_done, .int t_undone, .ref h_t_rows, .ref h_t_met, .ref h_t_metSizes, .int (0 : Int32), .int t_treesSeen, .ref h_t_chosen, .ref h_t_tape, .int t_taped, .int t_place, .int t_isWrong, .int t_toldGenus, .int t_toldMarks, .ref h_t_toldPowers, .ref h_t_powerPlaces, .int t_isTree, .int t_toldLeaves, .int t_leavesPlace, .int t_toldSplits, .ref h_t_toldTree, .ref h_t_splitPlaces, .ref h_t_layers, .int t_isWhy, .ref h_t_paper, .int t_papered, .ref h_t_held, .ref h_t_numbers, .ref h_t_sizes, .ref h_t_heldLeaves, .ref h_t_items, .ref h_t_kept, .int t_isKept])), (h_t_rows, .inl (cI, 480, .inl (x1.2))), (h_t_powers, .inl (cI, 8, .inl a_t_powers)), (h_t_met, .inl (cI, 36000, .inl vK16_42_0)), (h_t_metSizes, .inl (cI, 3000, .inl a_t_metSizes))] → va_S A s.heap H locs → lv_has ls 5 [(0, .ref h_t)] → K_X9_met_16_42 t_genus t_marks a_t_metSizes x1 vK16_42_0 = some (r0, w0, w1, w2, w3) → W p l e (headSpec wsX9_met ({ frames := 3, cells := 0, slots := 0, locals := 69 })).room s m ([.ref h_t] : List Value).toArray below meth c H locs 0 0 (MQ below (va_Qi (fun r (_ : Unit) => r = r0 ∧ True) (fun _ t => va_P G vwCl [(h_t, .inr (8, [.int t_genus, .int t_marks, .ref h_t_powers, .int t_leaves, .int t_splits, .ref h_t_tree, .ref h_t_ahead, .ref h_t_behind, .ref h_t_before, .int t_done, .int t_undone, .ref h_t_rows, .ref h_t_met, .ref h_t_metSizes, .int w3, .int t_treesSeen, .ref h_t_chosen, .ref h_t_tape, .int t_taped, .int t_place, .int t_isWrong, .int t_toldGenus, .int t_toldMarks, .ref h_t_toldPowers, .ref h_t_powerPlaces, .int t_isTree, .int t_toldLeaves, .int t_leavesPlace, .int t_toldSplits, .ref h_t_toldTree, .ref h_t_splitPlaces, .ref h_t_layers, .int t_isWhy, .ref h_t_paper, .int t_papered, .ref h_t_held, .ref h_t_numbers, .ref h_t_sizes, .ref h_t_heldLeaves, .ref h_t_items, .ref h_t_kept, .int t_isKept])), (h_t_rows, .inl (cI, 480, .inl w0)), (h_t_powers, .inl (cI, 8, .inl a_t_powers)), (h_t_met, .inl (cI, 36000, .inl w1)), (h_t_metSizes, .inl (cI, 3000, .inl w2))] t.heap) A) ([.ref h_t] : List Value).toArray s 0 0 A) (F0 m 42 ls []) := by
  have hta : ∀ w ∈ wA, w.before ([.ref h_t] : List Value).toArray s = true := hta_of hts
  have hinX9 : ∀ w ∈ wsX90, w ∈ wsX9_met := hin_of in_X9
  intro vK16_42_0 H locs ls hP hD hS hl h
  unfold K_X9_met_16_42 at h
  refine lv_aload_n hx hb dX9_met_42 rfl (lv_at hl 0 rfl) ?_
  refine lv_iconst (v := (0 : Int32)) hx hb dX9_met_43 (by decide) ?_
  refine lv_aload_n hx hb dX9_met_44 rfl (lv_at hl 0 rfl) ?_
  refine va_get (D := G) (ci := 8) (v := .int t_marks) (C := RX9) (T := TX9) (N := 42) hx hb hts hinX9 hown hK hP 0 rfl rfl 1 (by decide) (hta _ mw_641) (fun _ h9 => h9) rfl dX9_met_45 ?_
  obtain ⟨x3, hx3, h⟩ := bd_e h
  try dsimp only at h
  refine k_VvM (n := 2) (As := [.int (0 : Int32), .int t_marks]) (rest := []) hx hb hml hown hts (c_X9_meets l G cI cJ cD cH H.size h_t h_t_met h_t_metSizes h_t_powers h_t_tree h_t_ahead h_t_behind h_t_before h_t_rows h_t_chosen h_t_tape h_t_toldPowers h_t_powerPlaces h_t_toldTree h_t_splitPlaces h_t_layers h_t_paper h_t_held h_t_numbers h_t_sizes h_t_heldLeaves h_t_items h_t_kept t_genus t_marks t_leaves t_splits t_done t_undone (0 : Int32) t_treesSeen t_taped t_place t_isWrong t_toldGenus t_toldMarks t_isTree t_toldLeaves t_leavesPlace t_toldSplits t_isWhy t_papered t_isKept vK16_42_0 a_t_metSizes (0 : Int32) t_marks (x3.1) (x3.2.1) (x3.2.2) hx3) gX9_met_X9_meets rfl rfl rfl (by decide +kernel) ⟨by first | exact Nat.le_of_ble_eq_true rfl | (simp only [headSpec]; omega), by first | exact Nat.le_of_ble_eq_true rfl | (simp only [headSpec]; omega)⟩ hK hP hD hS hA [0, 3, 4] (by decide) rfl rfl (ci := 8) rfl rfl rfl rfl rfl hl.1 (Nat.le_of_ble_eq_true rfl) dX9_met_48 ⟨Nat.zero_le _, Nat.zero_le _⟩ [(h_t, .inr (8, [.int t_genus, .int t_marks, .ref h_t_powers, .int t_leaves, .int t_splits, .ref h_t_tree, .ref h_t_ahead, .ref h_t_behind, .ref h_t_before, .int t_done, .int t_undone, .ref h_t_rows, .ref h_t_met, .ref h_t_metSizes, .int (x3.2.2), .int t_treesSeen, .ref h_t_chosen, .ref h_t_tape, .int t_taped, .int t_place, .int t_isWrong, .int t_toldGenus, .int t_toldMarks, .ref h_t_toldPowers, .ref h_t_powerPlaces, .int t_isTree, .int t_toldLeaves, .int t_leavesPlace, .int t_toldSplits, .ref h_t_toldTree, .ref h_t_splitPlaces, .ref h_t_layers, .int t_isWhy, .ref h_t_paper, .int t_papered, .ref h_t_held, .ref h_t_numbers, .ref h_t_sizes, .ref h_t_heldLeaves, .ref h_t_items, .ref h_t_kept, .int t_isKept])), (h_t_rows, .inl (cI, 480, .inl (x1.2))), (h_t_powers, .inl (cI, 8, .inl a_t_powers)), (h_t_met, .inl (cI, 36000, .inl (x3.1))), (h_t_metSizes, .inl (cI, 3000, .inl (x3.2.1)))] [1, 0, 0, 2, 3] 3 (by decide +kernel) rfl rfl rfl (fun hp3 H locs hP hD hS => ?_)
  refine lv_iconst (v := (0 : Int32)) hx hb dX9_met_51 (by decide) ?_
  refine lv_istore_n (lv' := [(1, .int (0 : Int32)), (0, .ref h_t)]) hx hb dX9_met_52 rfl hl (by decide) rfl (fun ls hl => ?_)
  have hL53 : ∀ (n53 : Nat) (vL53_0 : Nat → Int32) (vL53_1 : Nat → Int32) (vL53_2 : Int32) (vL53_3 : Int32) (H : Heap) (locs : List Loc) (ls : Array Slot), va_P G vwCl [(h_t, .inr (8, [.int t_genus, .int t_marks, .ref h_t_powers, .int t_leaves, .int t_splits, .ref h_t_tree, .ref h_t_ahead, .ref h_t_behind, .ref h_t_before, .int t_done, .int t_undone, .ref h_t_rows, .ref h_t_met, .ref h_t_metSizes, .int vL53_2, .int t_treesSeen, .ref h_t_chosen, .ref h_t_tape, .int t_taped, .int t_place, .int t_isWrong, .int t_toldGenus, .int t_toldMarks, .ref h_t_toldPowers, .ref h_t_powerPlaces, .int t_isTree, .int t_toldLeaves, .int t_leavesPlace, .int t_toldSplits, .ref h_t_toldTree, .ref h_t_splitPlaces, .ref h_t_layers, .int t_isWhy, .ref h_t_paper, .int t_papered, .ref h_t_held, .ref h_t_numbers, .ref h_t_sizes, .ref h_t_heldLeaves, .ref h_t_items, .ref h_t_kept, .int t_isKept])), (h_t_rows, .inl (cI, 480, .inl (x1.2))), (h_t_powers, .inl (cI, 8, .inl a_t_powers)), (h_t_met, .inl (cI, 36000, .inl vL53_0)), (h_t_metSizes, .inl (cI, 3000, .inl vL53_1))] H → va_D A [(h_t, .inr (8, [.int t_genus, .int t_marks, .ref h_t_powers, .int t_leaves, .int t_splits, .ref h_t_tree, .ref h_t_ahead, .ref h_t_behind, .ref h_t_before, .int t_done, .int t_undone, .ref h_t_rows, .ref h_t_met, .ref h_t_metSizes, .int vL53_2, .int t_treesSeen, .ref h_t_chosen, .ref h_t_tape, .int t_taped, .int t_place, .int t_isWrong, .int t_toldGenus, .int t_toldMarks, .ref h_t_toldPowers, .ref h_t_powerPlaces, .int t_isTree, .int t_toldLeaves, .int t_leavesPlace, .int t_toldSplits, .ref h_t_toldTree, .ref h_t_splitPlaces, .ref h_t_layers, .int t_isWhy, .ref h_t_paper, .int t_papered, .ref h_t_held, .ref h_t_numbers, .ref h_t_sizes, .ref h_t_heldLeaves, .ref h_t_items, .ref h_t_kept, .int t_isKept])), (h_t_rows, .inl (cI, 480, .inl (x1.2))), (h_t_powers, .inl (cI, 8, .inl a_t_powers)), (h_t_met, .inl (cI, 36000, .inl vL53_0)), (h_t_metSizes, .inl (cI, 3000, .inl vL53_1))] → va_S A s.heap H locs → lv_has ls 5 [(0, .ref h_t), (1, .int vL53_3)] → wq4 (B_X9_met_53 t_genus (K_X9_met_53_214 x1)) n53 vL53_0 vL53_1 vL53_2 vL53_3 = some (r0, w0, w1, w2, w3) → W p l e (headSpec wsX9_met ({ frames := 3, cells := 0, slots := 0, locals := 69 })).room s m ([.ref h_t] : List Value).toArray below meth c H locs 0 0 (MQ below (va_Qi (fun r (_ : Unit) => r = r0 ∧ True) (fun _ t => va_P G vwCl [(h_t, .inr (8, [.int t_genus, .int t_marks, .ref h_t_powers, .int t_leaves, .int t_splits, .ref h_t_tree, .ref h_t_ahead, .ref h_t_behind, .ref h_t_before, .int t_done, .int t_undone, .ref h_t_rows, .ref h_t_met, .ref h_t_metSizes, .int w3, .int t_treesSeen, .ref h_t_chosen, .ref h_t_tape, .int t_taped, .int t_place, .int t_isWrong, .int t_toldGenus, .int t_toldMarks, .ref h_t_toldPowers, .ref h_t_powerPlaces, .int t_isTree, .int t_toldLeaves, .int t_leavesPlace, .int t_toldSplits, .ref h_t_toldTree, .ref h_t_splitPlaces, .ref h_t_layers, .int t_isWhy, .ref h_t_paper, .int t_papered, .ref h_t_held, .ref h_t_numbers, .ref h_t_sizes, .ref h_t_heldLeaves, .ref h_t_items, .ref h_t_kept, .int t_isKept])), (h_t_rows, .inl (cI, 480, .inl w0)), (h_t_powers, .inl (cI, 8, .inl a_t_powers)), (h_t_met, .inl (cI, 36000, .inl w1)), (h_t_metSizes, .inl (cI, 3000, .inl w2))] t.heap) A) ([.ref h_t] : List Value).toArray s 0 0 A) (F0 m 53 ls []) := by
    intro n53
    induction n53 with
    | zero => intro vL53_0 vL53_1 vL53_2 vL53_3 H locs ls hP hD hS hl h; exact wq4_0 h
    | succ n53 ih53 =>
      intro vL53_0 vL53_1 vL53_2 vL53_3 H locs ls hP hD hS hl h
      have h := wq4_s h
      unfold B_X9_met_53 at h
      refine lv_iload_n hx hb dX9_met_53 rfl (lv_at hl 1 rfl) ?_
      refine lv_aload_n hx hb dX9_met_54 rfl (lv_at hl 0 rfl) ?_
      refine va_get (D := G) (ci := 8) (v := .int vL53_2) (C := RX9) (T := TX9) (N := 42) hx hb hts hinX9 hown hK hP 0 rfl rfl 14 (by decide) (hta _ mw_723) (fun _ h9 => h9) rfl dX9_met_55 ?_
      refine lv_icmp_ge (tgt := 214) hx hb dX9_met_58 (by decide) (fun c4 => ?_) (fun c4 => ?_)
      · have h := it_p h c4
        exact tK_X9_met_53_214 hx hb hr hml hts hown hlocks hK hA vL53_0 vL53_1 vL53_2 _ _ _ hP hD hS (lv_sub hl [0] rfl) h
      have h := it_n h c4
      refine lv_iload_n hx hb dX9_met_61 rfl (lv_at hl 1 rfl) ?_
      refine lv_bipush (v := (12 : Int32)) hx hb dX9_met_62 (by decide) ?_
      refine lv_imul hx hb dX9_met_64 ?_
      refine lv_istore_n (lv' := [(2, .int (vL53_3 * (12 : Int32))), (0, .ref h_t), (1, .int vL53_3)]) hx hb dX9_met_65 rfl hl (by decide) rfl (fun ls hl => ?_)
      refine lv_aload_n hx hb dX9_met_66 rfl (lv_at hl 1 rfl) ?_
      refine va_get (D := G) (ci := 8) (v := .ref h_t_metSizes) (C := RX9) (T := TX9) (N := 42) hx hb hts hinX9 hown hK hP 0 rfl rfl 13 (by decide) (hta _ mw_617) (fun _ h9 => h9) rfl dX9_met_67 ?_
      refine lv_iload_n hx hb dX9_met_70 rfl (lv_at hl 2 rfl) ?_
      obtain ⟨hn5, h⟩ := ck_e h
      refine va_iald hx hb hK hP 4 0 rfl rfl hn5 dX9_met_71 ?_
      refine lv_istore_n (lv' := [(3, .int (vL53_1 vL53_3.toNatClampNeg)), (2, .int (vL53_3 * (12 : Int32))), (0, .ref h_t), (1, .int vL53_3)]) hx hb dX9_met_72 rfl hl (by decide) rfl (fun ls hl => ?_)
      refine lv_aload_n hx hb dX9_met_73 rfl (lv_at hl 2 rfl) ?_
      refine va_get (D := G) (ci := 8) (v := .int t_genus) (C := RX9) (T := TX9) (N := 42) hx hb hts hinX9 hown hK hP 0 rfl rfl 0 (by decide) (hta _ mw_640) (fun _ h9 => h9) rfl dX9_met_74 ?_
      refine lv_aload_n hx hb dX9_met_77 rfl (lv_at hl 2 rfl) ?_
      refine va_get (D := G) (ci := 8) (v := .ref h_t_met) (C := RX9) (T := TX9) (N := 42) hx hb hts hinX9 hown hK hP 0 rfl rfl 12 (by decide) (hta _ mw_616) (fun _ h9 => h9) rfl dX9_met_78 ?_
      refine lv_iload_n hx hb dX9_met_81 rfl (lv_at hl 1 rfl) ?_
      refine lv_iload_n hx hb dX9_met_82 rfl (lv_at hl 0 rfl) ?_
      obtain ⟨x6, hx6, h⟩ := bd_e h
      try dsimp only at h
      refine k_SlU (n := 4) (As := [.int t_genus, .ref h_t_met, .int (vL53_3 * (12 : Int32)), .int (vL53_1 vL53_3.toNatClampNeg)]) (rest := []) hx hb hml hown hts (c_X9_base l G cI cJ cD cH H.size h_t_met 36000 vL53_0 t_genus (vL53_3 * (12 : Int32)) (vL53_1 vL53_3.toNatClampNeg) x6 hx6) gX9_met_X9_base rfl rfl rfl (by decide +kernel) ⟨by first | exact Nat.le_of_ble_eq_true rfl | (simp only [headSpec]; omega), by first | exact Nat.le_of_ble_eq_true rfl | (simp only [headSpec]; omega)⟩ hK hP hD hS hA [3] (by decide) rfl rfl rfl hl.1 (Nat.le_of_ble_eq_true rfl) dX9_met_83 ⟨Nat.zero_le _, Nat.zero_le _⟩ (fun hp6 H locs hP hS => ?_)
      refine lv_lconst (v := (0 : Int64)) hx hb dX9_met_86 (by decide) ?_
      refine W.lcmp hx hb dX9_met_87 ?_
      refine lv_if_lt (tgt := 94) hx hb dX9_met_88 (by decide) (fun c7 => ?_) (fun c7 => ?_)
      rotate_left
      · have h := it_n h c7
        refine lv_goto (tgt := 208) hx hb dX9_met_91 (by decide) ?_
        refine lv_iinc (v := (vL53_3 + (1 : Int32))) (lv' := [(1, .int (vL53_3 + (1 : Int32))), (3, .int (vL53_1 vL53_3.toNatClampNeg)), (2, .int (vL53_3 * (12 : Int32))), (0, .ref h_t)]) hx hb dX9_met_208 hl (k := 3) rfl (by first | rfl | decide) (by decide) rfl (fun ls hl => ?_)
        refine lv_goto (tgt := 53) hx hb dX9_met_211 (by decide) ?_
        exact ih53 vL53_0 vL53_1 vL53_2 (vL53_3 + (1 : Int32)) _ _ _ hP hD hS (lv_sub hl [3, 0] rfl) h
      have h := it_p h c7
      refine lv_aload_n hx hb dX9_met_94 rfl (lv_at hl 2 rfl) ?_
      refine va_get (D := G) (ci := 8) (v := .ref h_t_met) (C := RX9) (T := TX9) (N := 42) hx hb hts hinX9 hown hK hP 0 rfl rfl 12 (by decide) (hta _ mw_616) (fun _ h9 => h9) rfl dX9_met_95 ?_
      refine lv_iload_n hx hb dX9_met_98 rfl (lv_at hl 1 rfl) ?_
      refine lv_iload_n hx hb dX9_met_99 rfl (lv_at hl 0 rfl) ?_
      refine lv_iconst (v := (0 : Int32)) hx hb dX9_met_100 (by decide) ?_
      obtain ⟨x8, hx8, h⟩ := bd_e h
      try dsimp only at h
      refine k_SiU (n := 4) (As := [.ref h_t_met, .int (vL53_3 * (12 : Int32)), .int (vL53_1 vL53_3.toNatClampNeg), .int (0 : Int32)]) (rest := []) hx hb hml hown hts (c_X9_often l G cI cJ cD cH H.size h_t_met 36000 vL53_0 (vL53_3 * (12 : Int32)) (vL53_1 vL53_3.toNatClampNeg) (0 : Int32) x8 hx8) gX9_met_X9_often rfl rfl rfl (by decide +kernel) ⟨by first | exact Nat.le_of_ble_eq_true rfl | (simp only [headSpec]; omega), by first | exact Nat.le_of_ble_eq_true rfl | (simp only [headSpec]; omega)⟩ hK hP hD hS hA [3] (by decide) rfl rfl rfl hl.1 (Nat.le_of_ble_eq_true rfl) dX9_met_101 ⟨Nat.zero_le _, Nat.zero_le _⟩ (fun hp8 H locs hP hS => ?_)
      refine lv_if_ne (tgt := 142) hx hb dX9_met_104 (by decide) (fun c9 => ?_) (fun c9 => ?_)
      rotate_left
      · have h := it_p h c9
        refine lv_aload_n hx hb dX9_met_107 rfl (lv_at hl 2 rfl) ?_
        refine va_get (D := G) (ci := 8) (v := .ref h_t_met) (C := RX9) (T := TX9) (N := 42) hx hb hts hinX9 hown hK hP 0 rfl rfl 12 (by decide) (hta _ mw_616) (fun _ h9 => h9) rfl dX9_met_108 ?_
        refine lv_iload_n hx hb dX9_met_111 rfl (lv_at hl 1 rfl) ?_
        refine lv_iload_n hx hb dX9_met_112 rfl (lv_at hl 0 rfl) ?_
        refine lv_iconst (v := (1 : Int32)) hx hb dX9_met_113 (by decide) ?_
        refine lv_iconst (v := (0 : Int32)) hx hb dX9_met_114 (by decide) ?_
        refine lv_aload_n hx hb dX9_met_115 rfl (lv_at hl 2 rfl) ?_
        refine va_get (D := G) (ci := 8) (v := .int vL53_2) (C := RX9) (T := TX9) (N := 42) hx hb hts hinX9 hown hK hP 0 rfl rfl 14 (by decide) (hta _ mw_723) (fun _ h9 => h9) rfl dX9_met_116 ?_
        refine lv_bipush (v := (12 : Int32)) hx hb dX9_met_119 (by decide) ?_
        refine lv_imul hx hb dX9_met_121 ?_
        obtain ⟨x15, hx15, h⟩ := bd_e h
        try dsimp only at h
        refine k_SvM (n := 6) (As := [.ref h_t_met, .int (vL53_3 * (12 : Int32)), .int (vL53_1 vL53_3.toNatClampNeg), .int (1 : Int32), .int (0 : Int32), .int (vL53_2 * (12 : Int32))]) (rest := []) hx hb hml hown hts (c_X9_leaves l G cI cJ cD cH H.size h_t_met 36000 vL53_0 (vL53_3 * (12 : Int32)) (vL53_1 vL53_3.toNatClampNeg) (1 : Int32) (0 : Int32) (vL53_2 * (12 : Int32)) x15 hx15) gX9_met_X9_leaves rfl rfl rfl (by decide +kernel) ⟨by first | exact Nat.le_of_ble_eq_true rfl | (simp only [headSpec]; omega), by first | exact Nat.le_of_ble_eq_true rfl | (simp only [headSpec]; omega)⟩ hK hP hD hS hA [3] (by decide) rfl rfl rfl rfl hl.1 (Nat.le_of_ble_eq_true rfl) dX9_met_122 ⟨Nat.zero_le _, Nat.zero_le _⟩ [(h_t, .inr (8, [.int t_genus, .int t_marks, .ref h_t_powers, .int t_leaves, .int t_splits, .ref h_t_tree, .ref h_t_ahead, .ref h_t_behind, .ref h_t_before, .int t_done, .int t_undone, .ref h_t_rows, .ref h_t_met, .ref h_t_metSizes, .int vL53_2, .int t_treesSeen, .ref h_t_chosen, .ref h_t_tape, .int t_taped, .int t_place, .int t_isWrong, .int t_toldGenus, .int t_toldMarks, .ref h_t_toldPowers, .ref h_t_powerPlaces, .int t_isTree, .int t_toldLeaves, .int t_leavesPlace, .int t_toldSplits, .ref h_t_toldTree, .ref h_t_splitPlaces, .ref h_t_layers, .int t_isWhy, .ref h_t_paper, .int t_papered, .ref h_t_held, .ref h_t_numbers, .ref h_t_sizes, .ref h_t_heldLeaves, .ref h_t_items, .ref h_t_kept, .int t_isKept])), (h_t_rows, .inl (cI, 480, .inl (x1.2))), (h_t_powers, .inl (cI, 8, .inl a_t_powers)), (h_t_met, .inl (cI, 36000, .inl x15)), (h_t_metSizes, .inl (cI, 3000, .inl vL53_1))] [0, 0, 0, 1, 0] 1 (by decide +kernel) rfl rfl rfl (fun hp15 H locs hP hD hS => ?_)
        refine lv_aload_n hx hb dX9_met_125 rfl (lv_at hl 2 rfl) ?_
        refine lv_aload_n hx hb dX9_met_126 rfl (lv_at hl 2 rfl) ?_
        refine va_get (D := G) (ci := 8) (v := .int vL53_2) (C := RX9) (T := TX9) (N := 42) hx hb hts hinX9 hown hK hP 0 rfl rfl 14 (by decide) (hta _ mw_723) (fun _ h9 => h9) rfl dX9_met_127 ?_
        refine lv_bipush (v := (12 : Int32)) hx hb dX9_met_130 (by decide) ?_
        refine lv_imul hx hb dX9_met_132 ?_
        refine lv_iload_n hx hb dX9_met_133 rfl (lv_at hl 0 rfl) ?_
        refine lv_iconst (v := (1 : Int32)) hx hb dX9_met_134 (by decide) ?_
        refine lv_isub hx hb dX9_met_135 ?_
        obtain ⟨x16, hx16, h⟩ := bd_e h
        try dsimp only at h
        refine k_VvM (n := 2) (As := [.int (vL53_2 * (12 : Int32)), .int ((vL53_1 vL53_3.toNatClampNeg) - (1 : Int32))]) (rest := []) hx hb hml hown hts (c_X9_meets l G cI cJ cD cH H.size h_t h_t_met h_t_metSizes h_t_powers h_t_tree h_t_ahead h_t_behind h_t_before h_t_rows h_t_chosen h_t_tape h_t_toldPowers h_t_powerPlaces h_t_toldTree h_t_splitPlaces h_t_layers h_t_paper h_t_held h_t_numbers h_t_sizes h_t_heldLeaves h_t_items h_t_kept t_genus t_marks t_leaves t_splits t_done t_undone vL53_2 t_treesSeen t_taped t_place t_isWrong t_toldGenus t_toldMarks t_isTree t_toldLeaves t_leavesPlace t_toldSplits t_isWhy t_papered t_isKept x15 vL53_1 (vL53_2 * (12 : Int32)) ((vL53_1 vL53_3.toNatClampNeg) - (1 : Int32)) (x16.1) (x16.2.1) (x16.2.2) hx16) gX9_met_X9_meets rfl rfl rfl (by decide +kernel) ⟨by first | exact Nat.le_of_ble_eq_true rfl | (simp only [headSpec]; omega), by first | exact Nat.le_of_ble_eq_true rfl | (simp only [headSpec]; omega)⟩ hK hP hD hS hA [0, 3, 4] (by decide) rfl rfl (ci := 8) rfl rfl rfl rfl rfl hl.1 (Nat.le_of_ble_eq_true rfl) dX9_met_136 ⟨Nat.zero_le _, Nat.zero_le _⟩ [(h_t, .inr (8, [.int t_genus, .int t_marks, .ref h_t_powers, .int t_leaves, .int t_splits, .ref h_t_tree, .ref h_t_ahead, .ref h_t_behind, .ref h_t_before, .int t_done, .int t_undone, .ref h_t_rows, .ref h_t_met, .ref h_t_metSizes, .int (x16.2.2), .int t_treesSeen, .ref h_t_chosen, .ref h_t_tape, .int t_taped, .int t_place, .int t_isWrong, .int t_toldGenus, .int t_toldMarks, .ref h_t_toldPowers, .ref h_t_powerPlaces, .int t_isTree, .int t_toldLeaves, .int t_leavesPlace, .int t_toldSplits, .ref h_t_toldTree, .ref h_t_splitPlaces, .ref h_t_layers, .int t_isWhy, .ref h_t_paper, .int t_papered, .ref h_t_held, .ref h_t_numbers, .ref h_t_sizes, .ref h_t_heldLeaves, .ref h_t_items, .ref h_t_kept, .int t_isKept])), (h_t_rows, .inl (cI, 480, .inl (x1.2))), (h_t_powers, .inl (cI, 8, .inl a_t_powers)), (h_t_met, .inl (cI, 36000, .inl (x16.1))), (h_t_metSizes, .inl (cI, 3000, .inl (x16.2.1)))] [1, 0, 0, 2, 3] 3 (by decide +kernel) rfl rfl rfl (fun hp16 H locs hP hD hS => ?_)
        refine lv_goto (tgt := 208) hx hb dX9_met_139 (by decide) ?_
        refine lv_iinc (v := (vL53_3 + (1 : Int32))) (lv' := [(1, .int (vL53_3 + (1 : Int32))), (3, .int (vL53_1 vL53_3.toNatClampNeg)), (2, .int (vL53_3 * (12 : Int32))), (0, .ref h_t)]) hx hb dX9_met_208 hl (k := 3) rfl (by first | rfl | decide) (by decide) rfl (fun ls hl => ?_)
        refine lv_goto (tgt := 53) hx hb dX9_met_211 (by decide) ?_
        exact ih53 (x16.1) (x16.2.1) (x16.2.2) (vL53_3 + (1 : Int32)) _ _ _ hP hD hS (lv_sub hl [3, 0] rfl) h
      have h := it_n h c9
      refine lv_iconst (v := (1 : Int32)) hx hb dX9_met_142 (by decide) ?_
      refine lv_istore (lv' := [(4, .int (1 : Int32)), (3, .int (vL53_1 vL53_3.toNatClampNeg)), (2, .int (vL53_3 * (12 : Int32))), (0, .ref h_t), (1, .int vL53_3)]) hx hb dX9_met_143 hl (by decide) rfl (fun ls hl => ?_)
      have hK_X9_met_145_208 : ∀  (vK145_208_0 : Nat → Int32) (vK145_208_1 : Nat → Int32) (vK145_208_2 : Int32) (H : Heap) (locs : List Loc) (ls : Array Slot), va_P G vwCl [(h_t, .inr (8, [.int t_genus, .int t_marks, .ref h_t_powers, .int t_leaves, .int t_splits, .ref h_t_tree, .ref h_t_ahead, .ref h_t_behind, .ref h_t_before, .int t_done, .int t_undone, .ref h_t_rows, .ref h_t_met, .ref h_t_metSizes, .int vK145_208_2, .int t_treesSeen, .ref h_t_chosen, .ref h_t_tape, .int t_taped, .int t_place, .int t_isWrong, .int t_toldGenus, .int t_toldMarks, .ref h_t_toldPowers, .ref h_t_powerPlaces, .int t_isTree, .int t_toldLeaves, .int t_leavesPlace, .int t_toldSplits, .ref h_t_toldTree, .ref h_t_splitPlaces, .ref h_t_layers, .int t_isWhy, .ref h_t_paper, .int t_papered, .ref h_t_held, .ref h_t_numbers, .ref h_t_sizes, .ref h_t_heldLeaves, .ref h_t_items, .ref h_t_kept, .int t_isKept])), (h_t_rows, .inl (cI, 480, .inl (x1.2))), (h_t_powers, .inl (cI, 8, .inl a_t_powers)), (h_t_met, .inl (cI, 36000, .inl vK145_208_0)), (h_t_metSizes, .inl (cI, 3000, .inl vK145_208_1))] H → va_D A [(h_t, .inr (8, [.int t_genus, .int t_marks, .ref h_t_powers, .int t_leaves, .int t_splits, .ref h_t_tree, .ref h_t_ahead, .ref h_t_behind, .ref h_t_before, .int t_done, .int t_undone, .ref h_t_rows, .ref h_t_met, .ref h_t_metSizes, .int vK145_208_2, .int t_treesSeen, .ref h_t_chosen, .ref h_t_tape, .int t_taped, .int t_place, .int t_isWrong, .int t_toldGenus, .int t_toldMarks, .ref h_t_toldPowers, .ref h_t_powerPlaces, .int t_isTree, .int t_toldLeaves, .int t_leavesPlace, .int t_toldSplits, .ref h_t_toldTree, .ref h_t_splitPlaces, .ref h_t_layers, .int t_isWhy, .ref h_t_paper, .int t_papered, .ref h_t_held, .ref h_t_numbers, .ref h_t_sizes, .ref h_t_heldLeaves, .ref h_t_items, .ref h_t_kept, .int t_isKept])), (h_t_rows, .inl (cI, 480, .inl (x1.2))), (h_t_powers, .inl (cI, 8, .inl a_t_powers)), (h_t_met, .inl (cI, 36000, .inl vK145_208_0)), (h_t_metSizes, .inl (cI, 3000, .inl vK145_208_1))] → va_S A s.heap H locs → lv_has ls 5 [(0, .ref h_t), (1, .int vL53_3)] → K_X9_met_145_208 vL53_3 (wq4 (B_X9_met_53 t_genus (K_X9_met_53_214 x1)) n53) vK145_208_0 vK145_208_1 vK145_208_2 = some (r0, w0, w1, w2, w3) → W p l e (headSpec wsX9_met ({ frames := 3, cells := 0, slots := 0, locals := 69 })).room s m ([.ref h_t] : List Value).toArray below meth c H locs 0 0 (MQ below (va_Qi (fun r (_ : Unit) => r = r0 ∧ True) (fun _ t => va_P G vwCl [(h_t, .inr (8, [.int t_genus, .int t_marks, .ref h_t_powers, .int t_leaves, .int t_splits, .ref h_t_tree, .ref h_t_ahead, .ref h_t_behind, .ref h_t_before, .int t_done, .int t_undone, .ref h_t_rows, .ref h_t_met, .ref h_t_metSizes, .int w3, .int t_treesSeen, .ref h_t_chosen, .ref h_t_tape, .int t_taped, .int t_place, .int t_isWrong, .int t_toldGenus, .int t_toldMarks, .ref h_t_toldPowers, .ref h_t_powerPlaces, .int t_isTree, .int t_toldLeaves, .int t_leavesPlace, .int t_toldSplits, .ref h_t_toldTree, .ref h_t_splitPlaces, .ref h_t_layers, .int t_isWhy, .ref h_t_paper, .int t_papered, .ref h_t_held, .ref h_t_numbers, .ref h_t_sizes, .ref h_t_heldLeaves, .ref h_t_items, .ref h_t_kept, .int t_isKept])), (h_t_rows, .inl (cI, 480, .inl w0)), (h_t_powers, .inl (cI, 8, .inl a_t_powers)), (h_t_met, .inl (cI, 36000, .inl w1)), (h_t_metSizes, .inl (cI, 3000, .inl w2))] t.heap) A) ([.ref h_t] : List Value).toArray s 0 0 A) (F0 m 208 ls []) := by
        intro vK145_208_0 vK145_208_1 vK145_208_2 H locs ls hP hD hS hl h
        unfold K_X9_met_145_208 at h
        refine lv_iinc (v := (vL53_3 + (1 : Int32))) (lv' := [(1, .int (vL53_3 + (1 : Int32))), (0, .ref h_t)]) hx hb dX9_met_208 hl (k := 1) rfl (by first | rfl | decide) (by decide) rfl (fun ls hl => ?_)
        refine lv_goto (tgt := 53) hx hb dX9_met_211 (by decide) ?_
        exact ih53 vK145_208_0 vK145_208_1 vK145_208_2 (vL53_3 + (1 : Int32)) _ _ _ hP hD hS (lv_sub hl [1, 0] rfl) h
      have hL145 : ∀ (n145 : Nat) (vL145_0 : Nat → Int32) (vL145_1 : Nat → Int32) (vL145_2 : Int32) (vL145_3 : Int32) (H : Heap) (locs : List Loc) (ls : Array Slot), va_P G vwCl [(h_t, .inr (8, [.int t_genus, .int t_marks, .ref h_t_powers, .int t_leaves, .int t_splits, .ref h_t_tree, .ref h_t_ahead, .ref h_t_behind, .ref h_t_before, .int t_done, .int t_undone, .ref h_t_rows, .ref h_t_met, .ref h_t_metSizes, .int vL145_2, .int t_treesSeen, .ref h_t_chosen, .ref h_t_tape, .int t_taped, .int t_place, .int t_isWrong, .int t_toldGenus, .int t_toldMarks, .ref h_t_toldPowers, .ref h_t_powerPlaces, .int t_isTree, .int t_toldLeaves, .int t_leavesPlace, .int t_toldSplits, .ref h_t_toldTree, .ref h_t_splitPlaces, .ref h_t_layers, .int t_isWhy, .ref h_t_paper, .int t_papered, .ref h_t_held, .ref h_t_numbers, .ref h_t_sizes, .ref h_t_heldLeaves, .ref h_t_items, .ref h_t_kept, .int t_isKept])), (h_t_rows, .inl (cI, 480, .inl (x1.2))), (h_t_powers, .inl (cI, 8, .inl a_t_powers)), (h_t_met, .inl (cI, 36000, .inl vL145_0)), (h_t_metSizes, .inl (cI, 3000, .inl vL145_1))] H → va_D A [(h_t, .inr (8, [.int t_genus, .int t_marks, .ref h_t_powers, .int t_leaves, .int t_splits, .ref h_t_tree, .ref h_t_ahead, .ref h_t_behind, .ref h_t_before, .int t_done, .int t_undone, .ref h_t_rows, .ref h_t_met, .ref h_t_metSizes, .int vL145_2, .int t_treesSeen, .ref h_t_chosen, .ref h_t_tape, .int t_taped, .int t_place, .int t_isWrong, .int t_toldGenus, .int t_toldMarks, .ref h_t_toldPowers, .ref h_t_powerPlaces, .int t_isTree, .int t_toldLeaves, .int t_leavesPlace, .int t_toldSplits, .ref h_t_toldTree, .ref h_t_splitPlaces, .ref h_t_layers, .int t_isWhy, .ref h_t_paper, .int t_papered, .ref h_t_held, .ref h_t_numbers, .ref h_t_sizes, .ref h_t_heldLeaves, .ref h_t_items, .ref h_t_kept, .int t_isKept])), (h_t_rows, .inl (cI, 480, .inl (x1.2))), (h_t_powers, .inl (cI, 8, .inl a_t_powers)), (h_t_met, .inl (cI, 36000, .inl vL145_0)), (h_t_metSizes, .inl (cI, 3000, .inl vL145_1))] → va_S A s.heap H locs → lv_has ls 5 [(0, .ref h_t), (1, .int vL53_3), (2, .int (vL53_3 * (12 : Int32))), (3, .int (vL53_1 vL53_3.toNatClampNeg)), (4, .int vL145_3)] → wq4 (B_X9_met_145 vL53_1 vL53_3 (K_X9_met_145_208 vL53_3 (wq4 (B_X9_met_53 t_genus (K_X9_met_53_214 x1)) n53))) n145 vL145_0 vL145_1 vL145_2 vL145_3 = some (r0, w0, w1, w2, w3) → W p l e (headSpec wsX9_met ({ frames := 3, cells := 0, slots := 0, locals := 69 })).room s m ([.ref h_t] : List Value).toArray below meth c H locs 0 0 (MQ below (va_Qi (fun r (_ : Unit) => r = r0 ∧ True) (fun _ t => va_P G vwCl [(h_t, .inr (8, [.int t_genus, .int t_marks, .ref h_t_powers, .int t_leaves, .int t_splits, .ref h_t_tree, .ref h_t_ahead, .ref h_t_behind, .ref h_t_before, .int t_done, .int t_undone, .ref h_t_rows, .ref h_t_met, .ref h_t_metSizes, .int w3, .int t_treesSeen, .ref h_t_chosen, .ref h_t_tape, .int t_taped, .int t_place, .int t_isWrong, .int t_toldGenus, .int t_toldMarks, .ref h_t_toldPowers, .ref h_t_powerPlaces, .int t_isTree, .int t_toldLeaves, .int t_leavesPlace, .int t_toldSplits, .ref h_t_toldTree, .ref h_t_splitPlaces, .ref h_t_layers, .int t_isWhy, .ref h_t_paper, .int t_papered, .ref h_t_held, .ref h_t_numbers, .ref h_t_sizes, .ref h_t_heldLeaves, .ref h_t_items, .ref h_t_kept, .int t_isKept])), (h_t_rows, .inl (cI, 480, .inl w0)), (h_t_powers, .inl (cI, 8, .inl a_t_powers)), (h_t_met, .inl (cI, 36000, .inl w1)), (h_t_metSizes, .inl (cI, 3000, .inl w2))] t.heap) A) ([.ref h_t] : List Value).toArray s 0 0 A) (F0 m 145 ls []) := by
        intro n145
        induction n145 with
        | zero => intro vL145_0 vL145_1 vL145_2 vL145_3 H locs ls hP hD hS hl h; exact wq4_0 h
        | succ n145 ih145 =>
          intro vL145_0 vL145_1 vL145_2 vL145_3 H locs ls hP hD hS hl h
          have h := wq4_s h
          unfold B_X9_met_145 at h
          refine lv_iload hx hb dX9_met_145 (lv_at hl 4 rfl) ?_
          refine lv_bipush (v := (12 : Int32)) hx hb dX9_met_147 (by decide) ?_
          refine lv_icmp_gt (tgt := 208) hx hb dX9_met_149 (by decide) (fun c10 => ?_) (fun c10 => ?_)
          · have h := it_p h c10
            exact hK_X9_met_145_208 vL145_0 vL145_1 vL145_2 _ _ _ hP hD hS (lv_sub hl [0, 1] rfl) h
          have h := it_n h c10
          refine lv_aload_n hx hb dX9_met_152 rfl (lv_at hl 0 rfl) ?_
          refine va_get (D := G) (ci := 8) (v := .ref h_t_met) (C := RX9) (T := TX9) (N := 42) hx hb hts hinX9 hown hK hP 0 rfl rfl 12 (by decide) (hta _ mw_616) (fun _ h9 => h9) rfl dX9_met_153 ?_
          refine lv_iload_n hx hb dX9_met_156 rfl (lv_at hl 2 rfl) ?_
          refine lv_iload_n hx hb dX9_met_157 rfl (lv_at hl 3 rfl) ?_
          refine lv_iload hx hb dX9_met_158 (lv_at hl 4 rfl) ?_
          obtain ⟨x11, hx11, h⟩ := bd_e h
          try dsimp only at h
          refine k_SiU (n := 4) (As := [.ref h_t_met, .int (vL53_3 * (12 : Int32)), .int (vL53_1 vL53_3.toNatClampNeg), .int vL145_3]) (rest := []) hx hb hml hown hts (c_X9_often l G cI cJ cD cH H.size h_t_met 36000 vL145_0 (vL53_3 * (12 : Int32)) (vL53_1 vL53_3.toNatClampNeg) vL145_3 x11 hx11) gX9_met_X9_often rfl rfl rfl (by decide +kernel) ⟨by first | exact Nat.le_of_ble_eq_true rfl | (simp only [headSpec]; omega), by first | exact Nat.le_of_ble_eq_true rfl | (simp only [headSpec]; omega)⟩ hK hP hD hS hA [3] (by decide) rfl rfl rfl hl.1 (Nat.le_of_ble_eq_true rfl) dX9_met_160 ⟨Nat.zero_le _, Nat.zero_le _⟩ (fun hp11 H locs hP hS => ?_)
          refine lv_if_ne (tgt := 169) hx hb dX9_met_163 (by decide) (fun c12 => ?_) (fun c12 => ?_)
          rotate_left
          · have h := it_p h c12
            refine lv_goto (tgt := 202) hx hb dX9_met_166 (by decide) ?_
            refine lv_iinc (v := (vL145_3 + (1 : Int32))) (lv' := [(4, .int (vL145_3 + (1 : Int32))), (0, .ref h_t), (1, .int vL53_3), (2, .int (vL53_3 * (12 : Int32))), (3, .int (vL53_1 vL53_3.toNatClampNeg))]) hx hb dX9_met_202 hl (k := 4) rfl (by first | rfl | decide) (by decide) rfl (fun ls hl => ?_)
            refine lv_goto (tgt := 145) hx hb dX9_met_205 (by decide) ?_
            exact ih145 vL145_0 vL145_1 vL145_2 (vL145_3 + (1 : Int32)) _ _ _ hP hD hS (lv_sub hl [1, 2, 3, 4, 0] rfl) h
          have h := it_n h c12
          refine lv_aload_n hx hb dX9_met_169 rfl (lv_at hl 0 rfl) ?_
          refine va_get (D := G) (ci := 8) (v := .ref h_t_met) (C := RX9) (T := TX9) (N := 42) hx hb hts hinX9 hown hK hP 0 rfl rfl 12 (by decide) (hta _ mw_616) (fun _ h9 => h9) rfl dX9_met_170 ?_
          refine lv_iload_n hx hb dX9_met_173 rfl (lv_at hl 2 rfl) ?_
          refine lv_iload_n hx hb dX9_met_174 rfl (lv_at hl 3 rfl) ?_
          refine lv_iconst (v := (0 : Int32)) hx hb dX9_met_175 (by decide) ?_
          refine lv_iload hx hb dX9_met_176 (lv_at hl 4 rfl) ?_
          refine lv_aload_n hx hb dX9_met_178 rfl (lv_at hl 0 rfl) ?_
          refine va_get (D := G) (ci := 8) (v := .int vL145_2) (C := RX9) (T := TX9) (N := 42) hx hb hts hinX9 hown hK hP 0 rfl rfl 14 (by decide) (hta _ mw_723) (fun _ h9 => h9) rfl dX9_met_179 ?_
          refine lv_bipush (v := (12 : Int32)) hx hb dX9_met_182 (by decide) ?_
          refine lv_imul hx hb dX9_met_184 ?_
          obtain ⟨x13, hx13, h⟩ := bd_e h
          try dsimp only at h
          refine k_SvM (n := 6) (As := [.ref h_t_met, .int (vL53_3 * (12 : Int32)), .int (vL53_1 vL53_3.toNatClampNeg), .int (0 : Int32), .int vL145_3, .int (vL145_2 * (12 : Int32))]) (rest := []) hx hb hml hown hts (c_X9_leaves l G cI cJ cD cH H.size h_t_met 36000 vL145_0 (vL53_3 * (12 : Int32)) (vL53_1 vL53_3.toNatClampNeg) (0 : Int32) vL145_3 (vL145_2 * (12 : Int32)) x13 hx13) gX9_met_X9_leaves rfl rfl rfl (by decide +kernel) ⟨by first | exact Nat.le_of_ble_eq_true rfl | (simp only [headSpec]; omega), by first | exact Nat.le_of_ble_eq_true rfl | (simp only [headSpec]; omega)⟩ hK hP hD hS hA [3] (by decide) rfl rfl rfl rfl hl.1 (Nat.le_of_ble_eq_true rfl) dX9_met_185 ⟨Nat.zero_le _, Nat.zero_le _⟩ [(h_t, .inr (8, [.int t_genus, .int t_marks, .ref h_t_powers, .int t_leaves, .int t_splits, .ref h_t_tree, .ref h_t_ahead, .ref h_t_behind, .ref h_t_before, .int t_done, .int t_undone, .ref h_t_rows, .ref h_t_met, .ref h_t_metSizes, .int vL145_2, .int t_treesSeen, .ref h_t_chosen, .ref h_t_tape, .int t_taped, .int t_place, .int t_isWrong, .int t_toldGenus, .int t_toldMarks, .ref h_t_toldPowers, .ref h_t_powerPlaces, .int t_isTree, .int t_toldLeaves, .int t_leavesPlace, .int t_toldSplits, .ref h_t_toldTree, .ref h_t_splitPlaces, .ref h_t_layers, .int t_isWhy, .ref h_t_paper, .int t_papered, .ref h_t_held, .ref h_t_numbers, .ref h_t_sizes, .ref h_t_heldLeaves, .ref h_t_items, .ref h_t_kept, .int t_isKept])), (h_t_rows, .inl (cI, 480, .inl (x1.2))), (h_t_powers, .inl (cI, 8, .inl a_t_powers)), (h_t_met, .inl (cI, 36000, .inl x13)), (h_t_metSizes, .inl (cI, 3000, .inl vL145_1))] [0, 0, 0, 1, 0] 1 (by decide +kernel) rfl rfl rfl (fun hp13 H locs hP hD hS => ?_)
          refine lv_aload_n hx hb dX9_met_188 rfl (lv_at hl 0 rfl) ?_
          refine lv_aload_n hx hb dX9_met_189 rfl (lv_at hl 0 rfl) ?_
          refine va_get (D := G) (ci := 8) (v := .int vL145_2) (C := RX9) (T := TX9) (N := 42) hx hb hts hinX9 hown hK hP 0 rfl rfl 14 (by decide) (hta _ mw_723) (fun _ h9 => h9) rfl dX9_met_190 ?_
          refine lv_bipush (v := (12 : Int32)) hx hb dX9_met_193 (by decide) ?_
          refine lv_imul hx hb dX9_met_195 ?_
          refine lv_iload_n hx hb dX9_met_196 rfl (lv_at hl 3 rfl) ?_
          refine lv_iconst (v := (1 : Int32)) hx hb dX9_met_197 (by decide) ?_
          refine lv_isub hx hb dX9_met_198 ?_
          obtain ⟨x14, hx14, h⟩ := bd_e h
          try dsimp only at h
          refine k_VvM (n := 2) (As := [.int (vL145_2 * (12 : Int32)), .int ((vL53_1 vL53_3.toNatClampNeg) - (1 : Int32))]) (rest := []) hx hb hml hown hts (c_X9_meets l G cI cJ cD cH H.size h_t h_t_met h_t_metSizes h_t_powers h_t_tree h_t_ahead h_t_behind h_t_before h_t_rows h_t_chosen h_t_tape h_t_toldPowers h_t_powerPlaces h_t_toldTree h_t_splitPlaces h_t_layers h_t_paper h_t_held h_t_numbers h_t_sizes h_t_heldLeaves h_t_items h_t_kept t_genus t_marks t_leaves t_splits t_done t_undone vL145_2 t_treesSeen t_taped t_place t_isWrong t_toldGenus t_toldMarks t_isTree t_toldLeaves t_leavesPlace t_toldSplits t_isWhy t_papered t_isKept x13 vL145_1 (vL145_2 * (12 : Int32)) ((vL53_1 vL53_3.toNatClampNeg) - (1 : Int32)) (x14.1) (x14.2.1) (x14.2.2) hx14) gX9_met_X9_meets rfl rfl rfl (by decide +kernel) ⟨by first | exact Nat.le_of_ble_eq_true rfl | (simp only [headSpec]; omega), by first | exact Nat.le_of_ble_eq_true rfl | (simp only [headSpec]; omega)⟩ hK hP hD hS hA [0, 3, 4] (by decide) rfl rfl (ci := 8) rfl rfl rfl rfl rfl hl.1 (Nat.le_of_ble_eq_true rfl) dX9_met_199 ⟨Nat.zero_le _, Nat.zero_le _⟩ [(h_t, .inr (8, [.int t_genus, .int t_marks, .ref h_t_powers, .int t_leaves, .int t_splits, .ref h_t_tree, .ref h_t_ahead, .ref h_t_behind, .ref h_t_before, .int t_done, .int t_undone, .ref h_t_rows, .ref h_t_met, .ref h_t_metSizes, .int (x14.2.2), .int t_treesSeen, .ref h_t_chosen, .ref h_t_tape, .int t_taped, .int t_place, .int t_isWrong, .int t_toldGenus, .int t_toldMarks, .ref h_t_toldPowers, .ref h_t_powerPlaces, .int t_isTree, .int t_toldLeaves, .int t_leavesPlace, .int t_toldSplits, .ref h_t_toldTree, .ref h_t_splitPlaces, .ref h_t_layers, .int t_isWhy, .ref h_t_paper, .int t_papered, .ref h_t_held, .ref h_t_numbers, .ref h_t_sizes, .ref h_t_heldLeaves, .ref h_t_items, .ref h_t_kept, .int t_isKept])), (h_t_rows, .inl (cI, 480, .inl (x1.2))), (h_t_powers, .inl (cI, 8, .inl a_t_powers)), (h_t_met, .inl (cI, 36000, .inl (x14.1))), (h_t_metSizes, .inl (cI, 3000, .inl (x14.2.1)))] [1, 0, 0, 2, 3] 3 (by decide +kernel) rfl rfl rfl (fun hp14 H locs hP hD hS => ?_)
          refine lv_iinc (v := (vL145_3 + (1 : Int32))) (lv' := [(4, .int (vL145_3 + (1 : Int32))), (0, .ref h_t), (1, .int vL53_3), (2, .int (vL53_3 * (12 : Int32))), (3, .int (vL53_1 vL53_3.toNatClampNeg))]) hx hb dX9_met_202 hl (k := 4) rfl (by first | rfl | decide) (by decide) rfl (fun ls hl => ?_)
          refine lv_goto (tgt := 145) hx hb dX9_met_205 (by decide) ?_
          exact ih145 (x14.1) (x14.2.1) (x14.2.2) (vL145_3 + (1 : Int32)) _ _ _ hP hD hS (lv_sub hl [1, 2, 3, 4, 0] rfl) h
      exact hL145 FU vL53_0 vL53_1 vL53_2 (1 : Int32) _ _ _ hP hD hS (lv_sub hl [3, 4, 2, 1, 0] rfl) h
  exact hL53 FU (x3.1) (x3.2.1) (x3.2.2) (0 : Int32) _ _ _ hP hD hS (lv_sub hl [1, 0] rfl) h
set_option maxHeartbeats 4000000 in
set_option maxRecDepth 100000 in
theorem c_X9_met (l : Launch) (G : va_G) (cI cJ cD cH : ClassId) (sz : Nat) (h_t : Nat) (h_t_rows : Nat) (h_t_powers : Nat) (h_t_met : Nat) (h_t_metSizes : Nat) (h_t_tree : Nat) (h_t_ahead : Nat) (h_t_behind : Nat) (h_t_before : Nat) (h_t_chosen : Nat) (h_t_tape : Nat) (h_t_toldPowers : Nat) (h_t_powerPlaces : Nat) (h_t_toldTree : Nat) (h_t_splitPlaces : Nat) (h_t_layers : Nat) (h_t_paper : Nat) (h_t_held : Nat) (h_t_numbers : Nat) (h_t_sizes : Nat) (h_t_heldLeaves : Nat) (h_t_items : Nat) (h_t_kept : Nat) (t_genus : Int32) (t_marks : Int32) (t_leaves : Int32) (t_splits : Int32) (t_done : Int32) (t_undone : Int32) (t_metMany : Int32) (t_treesSeen : Int32) (t_taped : Int32) (t_place : Int32) (t_isWrong : Int32) (t_toldGenus : Int32) (t_toldMarks : Int32) (t_isTree : Int32) (t_toldLeaves : Int32) (t_leavesPlace : Int32) (t_toldSplits : Int32) (t_isWhy : Int32) (t_papered : Int32) (t_isKept : Int32) (a_t_rows : Nat → Int32) (a_t_powers : Nat → Int32) (a_t_met : Nat → Int32) (a_t_metSizes : Nat → Int32) (r0 : Int32) (w0 : Nat → Int32) (w1 : Nat → Int32) (w2 : Nat → Int32) (w3 : Int32) (hF : F_X9_met t_genus t_marks t_metMany a_t_rows a_t_powers a_t_met a_t_metSizes = some (r0, w0, w1, w2, w3)) : Met l yX9_met wsX9_met ({ frames := 3, cells := 0, slots := 0, locals := 69 }) (k_pre G (k_T cI cJ cD cH) [(h_t, .inr (8, [.int t_genus, .int t_marks, .ref h_t_powers, .int t_leaves, .int t_splits, .ref h_t_tree, .ref h_t_ahead, .ref h_t_behind, .ref h_t_before, .int t_done, .int t_undone, .ref h_t_rows, .ref h_t_met, .ref h_t_metSizes, .int t_metMany, .int t_treesSeen, .ref h_t_chosen, .ref h_t_tape, .int t_taped, .int t_place, .int t_isWrong, .int t_toldGenus, .int t_toldMarks, .ref h_t_toldPowers, .ref h_t_powerPlaces, .int t_isTree, .int t_toldLeaves, .int t_leavesPlace, .int t_toldSplits, .ref h_t_toldTree, .ref h_t_splitPlaces, .ref h_t_layers, .int t_isWhy, .ref h_t_paper, .int t_papered, .ref h_t_held, .ref h_t_numbers, .ref h_t_sizes, .ref h_t_heldLeaves, .ref h_t_items, .ref h_t_kept, .int t_isKept])), (h_t_rows, .inl (cI, 480, .inl a_t_rows)), (h_t_powers, .inl (cI, 8, .inl a_t_powers)), (h_t_met, .inl (cI, 36000, .inl a_t_met)), (h_t_metSizes, .inl (cI, 3000, .inl a_t_metSizes))] sz [.ref h_t]) (va_Qi (fun r (_ : Unit) => r = r0 ∧ True) (fun _ t => va_P G vwCl [(h_t, .inr (8, [.int t_genus, .int t_marks, .ref h_t_powers, .int t_leaves, .int t_splits, .ref h_t_tree, .ref h_t_ahead, .ref h_t_behind, .ref h_t_before, .int t_done, .int t_undone, .ref h_t_rows, .ref h_t_met, .ref h_t_metSizes, .int w3, .int t_treesSeen, .ref h_t_chosen, .ref h_t_tape, .int t_taped, .int t_place, .int t_isWrong, .int t_toldGenus, .int t_toldMarks, .ref h_t_toldPowers, .ref h_t_powerPlaces, .int t_isTree, .int t_toldLeaves, .int t_leavesPlace, .int t_toldSplits, .ref h_t_toldTree, .ref h_t_splitPlaces, .ref h_t_layers, .int t_isWhy, .ref h_t_paper, .int t_papered, .ref h_t_held, .ref h_t_numbers, .ref h_t_sizes, .ref h_t_heldLeaves, .ref h_t_items, .ref h_t_kept, .int t_isKept])), (h_t_rows, .inl (cI, 480, .inl w0)), (h_t_powers, .inl (cI, 8, .inl a_t_powers)), (h_t_met, .inl (cI, 36000, .inl w1)), (h_t_metSizes, .inl (cI, 3000, .inl w2))] t.heap) (va_A [(h_t, .inr (8, [.int t_genus, .int t_marks, .ref h_t_powers, .int t_leaves, .int t_splits, .ref h_t_tree, .ref h_t_ahead, .ref h_t_behind, .ref h_t_before, .int t_done, .int t_undone, .ref h_t_rows, .ref h_t_met, .ref h_t_metSizes, .int t_metMany, .int t_treesSeen, .ref h_t_chosen, .ref h_t_tape, .int t_taped, .int t_place, .int t_isWrong, .int t_toldGenus, .int t_toldMarks, .ref h_t_toldPowers, .ref h_t_powerPlaces, .int t_isTree, .int t_toldLeaves, .int t_leavesPlace, .int t_toldSplits, .ref h_t_toldTree, .ref h_t_splitPlaces, .ref h_t_layers, .int t_isWhy, .ref h_t_paper, .int t_papered, .ref h_t_held, .ref h_t_numbers, .ref h_t_sizes, .ref h_t_heldLeaves, .ref h_t_items, .ref h_t_kept, .int t_isKept])), (h_t_rows, .inl (cI, 480, .inl a_t_rows)), (h_t_powers, .inl (cI, 8, .inl a_t_powers)), (h_t_met, .inl (cI, 36000, .inl a_t_met)), (h_t_metSizes, .inl (cI, 3000, .inl a_t_metSizes))] sz)) 0 0 (va_A [(h_t, .inr (8, [.int t_genus, .int t_marks, .ref h_t_powers, .int t_leaves, .int t_splits, .ref h_t_tree, .ref h_t_ahead, .ref h_t_behind, .ref h_t_before, .int t_done, .int t_undone, .ref h_t_rows, .ref h_t_met, .ref h_t_metSizes, .int t_metMany, .int t_treesSeen, .ref h_t_chosen, .ref h_t_tape, .int t_taped, .int t_place, .int t_isWrong, .int t_toldGenus, .int t_toldMarks, .ref h_t_toldPowers, .ref h_t_powerPlaces, .int t_isTree, .int t_toldLeaves, .int t_leavesPlace, .int t_toldSplits, .ref h_t_toldTree, .ref h_t_splitPlaces, .ref h_t_layers, .int t_isWhy, .ref h_t_paper, .int t_papered, .ref h_t_held, .ref h_t_numbers, .ref h_t_sizes, .ref h_t_heldLeaves, .ref h_t_items, .ref h_t_kept, .int t_isKept])), (h_t_rows, .inl (cI, 480, .inl a_t_rows)), (h_t_powers, .inl (cI, 8, .inl a_t_powers)), (h_t_met, .inl (cI, 36000, .inl a_t_met)), (h_t_metSizes, .inl (cI, 3000, .inl a_t_metSizes))] sz) := by
  refine Met.ofW (cc := cX9_met) (maxL := 5) (ret := (some .int)) (by decide) rfl ?_
  intro p e s m args below meth c s₁ B hml hv
  obtain ⟨rfl, hsz, hP, hK, hD0⟩ := hv
  have hx := B.exec
  have hb := B.bytes
  have hr := B.returns
  have hts := atoms_spec (ws := wsX9_met) B.pre
  have hta : ∀ w ∈ wA, w.before ([.ref h_t] : List Value).toArray s = true := hta_of hts
  have hown : s.vm.findClass RX9 = some m.cls := findClass_of_methodNamed B.named
  have hlocks := B.notSynchronized
  subst hsz
  have hD := hD0.self (sz := s.heap.size)
  generalize hAe : va_A [(h_t, .inr (8, [.int t_genus, .int t_marks, .ref h_t_powers, .int t_leaves, .int t_splits, .ref h_t_tree, .ref h_t_ahead, .ref h_t_behind, .ref h_t_before, .int t_done, .int t_undone, .ref h_t_rows, .ref h_t_met, .ref h_t_metSizes, .int t_metMany, .int t_treesSeen, .ref h_t_chosen, .ref h_t_tape, .int t_taped, .int t_place, .int t_isWrong, .int t_toldGenus, .int t_toldMarks, .ref h_t_toldPowers, .ref h_t_powerPlaces, .int t_isTree, .int t_toldLeaves, .int t_leavesPlace, .int t_toldSplits, .ref h_t_toldTree, .ref h_t_splitPlaces, .ref h_t_layers, .int t_isWhy, .ref h_t_paper, .int t_papered, .ref h_t_held, .ref h_t_numbers, .ref h_t_sizes, .ref h_t_heldLeaves, .ref h_t_items, .ref h_t_kept, .int t_isKept])), (h_t_rows, .inl (cI, 480, .inl a_t_rows)), (h_t_powers, .inl (cI, 8, .inl a_t_powers)), (h_t_met, .inl (cI, 36000, .inl a_t_met)), (h_t_metSizes, .inl (cI, 3000, .inl a_t_metSizes))] s.heap.size = A at hD ⊢
  have hA : ∀ q : Nat, s.heap.size ≤ q → A q := fun q h => by rw [← hAe]; exact Or.inr h
  have hS : va_S A s.heap s.heap [] := va_S.rf
  have hl := lv_entry ([.ref h_t]) (n := 5) (Nat.le_of_ble_eq_true rfl)
  rw [lg_entry_eq]
  generalize (lg_sl ([.ref h_t]) ++ List.replicate (5 - (lg_sl ([.ref h_t])).length) Slot.unset).toArray = ls at hl ⊢
  have hl : lv_has ls 5 [(0, .ref h_t)] := hl
  have hinX9 : ∀ w ∈ wsX90, w ∈ wsX9_met := hin_of in_X9
  have h := hF
  unfold F_X9_met at h
  refine lv_aload_n hx hb dX9_met_0 rfl (lv_at hl 0 rfl) ?_
  obtain ⟨x1, hx1, h⟩ := bd_e h
  try dsimp only at h
  refine k_ViM (n := 0) (As := []) (rest := []) hx hb hml hown hts (c_X9_ruleOf l G cI cJ cD cH s.heap.size h_t h_t_rows h_t_powers h_t_tree h_t_ahead h_t_behind h_t_before h_t_met h_t_metSizes h_t_chosen h_t_tape h_t_toldPowers h_t_powerPlaces h_t_toldTree h_t_splitPlaces h_t_layers h_t_paper h_t_held h_t_numbers h_t_sizes h_t_heldLeaves h_t_items h_t_kept t_genus t_marks t_leaves t_splits t_done t_undone t_metMany t_treesSeen t_taped t_place t_isWrong t_toldGenus t_toldMarks t_isTree t_toldLeaves t_leavesPlace t_toldSplits t_isWhy t_papered t_isKept a_t_rows a_t_powers (x1.1) (x1.2) hx1) gX9_met_X9_ruleOf rfl rfl rfl (by decide +kernel) ⟨by first | exact Nat.le_of_ble_eq_true rfl | (simp only [headSpec]; omega), by first | exact Nat.le_of_ble_eq_true rfl | (simp only [headSpec]; omega)⟩ hK hP hD hS hA [0, 1, 2] (by decide) rfl rfl (ci := 8) rfl rfl rfl rfl rfl hl.1 (Nat.le_of_ble_eq_true rfl) dX9_met_1 ⟨Nat.zero_le _, Nat.zero_le _⟩ [(h_t, .inr (8, [.int t_genus, .int t_marks, .ref h_t_powers, .int t_leaves, .int t_splits, .ref h_t_tree, .ref h_t_ahead, .ref h_t_behind, .ref h_t_before, .int t_done, .int t_undone, .ref h_t_rows, .ref h_t_met, .ref h_t_metSizes, .int t_metMany, .int t_treesSeen, .ref h_t_chosen, .ref h_t_tape, .int t_taped, .int t_place, .int t_isWrong, .int t_toldGenus, .int t_toldMarks, .ref h_t_toldPowers, .ref h_t_powerPlaces, .int t_isTree, .int t_toldLeaves, .int t_leavesPlace, .int t_toldSplits, .ref h_t_toldTree, .ref h_t_splitPlaces, .ref h_t_layers, .int t_isWhy, .ref h_t_paper, .int t_papered, .ref h_t_held, .ref h_t_numbers, .ref h_t_sizes, .ref h_t_heldLeaves, .ref h_t_items, .ref h_t_kept, .int t_isKept])), (h_t_rows, .inl (cI, 480, .inl (x1.2))), (h_t_powers, .inl (cI, 8, .inl a_t_powers)), (h_t_met, .inl (cI, 36000, .inl a_t_met)), (h_t_metSizes, .inl (cI, 3000, .inl a_t_metSizes))] [1, 2, 3, 0, 0] 3 (by decide +kernel) rfl rfl rfl (fun hp1 H locs hP hD hS => ?_)
  refine lv_if_ne (tgt := 9) hx hb dX9_met_4 (by decide) (fun c2 => ?_) (fun c2 => ?_)
  rotate_left
  · have h := it_p h c2
    refine lv_iconst (v := (0 : Int32)) hx hb dX9_met_7 (by decide) ?_
    have h9 := Option.some.inj h
    have e9 : (0 : Int32) = r0 := congrArg (fun z9 => z9.1) h9
    rw [← e9]
    have e9 : (x1.2) = w0 := congrArg (fun z9 => z9.2.1) h9
    rw [← e9]
    have e9 : a_t_met = w1 := congrArg (fun z9 => z9.2.2.1) h9
    rw [← e9]
    have e9 : a_t_metSizes = w2 := congrArg (fun z9 => z9.2.2.2.1) h9
    rw [← e9]
    have e9 : t_metMany = w3 := congrArg (fun z9 => z9.2.2.2.2) h9
    rw [← e9]
    exact k_iret hx hb hr hlocks hP hS rfl dX9_met_8
  have h := it_n h c2
  refine lv_aload_n hx hb dX9_met_9 rfl (lv_at hl 0 rfl) ?_
  refine lv_iconst (v := (0 : Int32)) hx hb dX9_met_10 (by decide) ?_
  refine va_put (D := G) (ci := 8) (v := .int (0 : Int32)) (ty := .int) (C := RX9) (T := TX9) (N := 42) hx hb hts hinX9 tyX9 tyX9_ok nmX9 hown hK hP hD hS 0 rfl rfl 14 (by decide) (hta _ mw_723) (fun _ h9 => h9) rfl (by decide +kernel) rfl rfl (Nat.le_of_ble_eq_true rfl) dX9_met_11 (fun H locs hP hD hS => ?_)
  have hP : va_P G vwCl [(h_t, .inr (8, [.int t_genus, .int t_marks, .ref h_t_powers, .int t_leaves, .int t_splits, .ref h_t_tree, .ref h_t_ahead, .ref h_t_behind, .ref h_t_before, .int t_done, .int t_undone, .ref h_t_rows, .ref h_t_met, .ref h_t_metSizes, .int (0 : Int32), .int t_treesSeen, .ref h_t_chosen, .ref h_t_tape, .int t_taped, .int t_place, .int t_isWrong, .int t_toldGenus, .int t_toldMarks, .ref h_t_toldPowers, .ref h_t_powerPlaces, .int t_isTree, .int t_toldLeaves, .int t_leavesPlace, .int t_toldSplits, .ref h_t_toldTree, .ref h_t_splitPlaces, .ref h_t_layers, .int t_isWhy, .ref h_t_paper, .int t_papered, .ref h_t_held, .ref h_t_numbers, .ref h_t_sizes, .ref h_t_heldLeaves, .ref h_t_items, .ref h_t_kept, .int t_isKept])), (h_t_rows, .inl (cI, 480, .inl (x1.2))), (h_t_powers, .inl (cI, 8, .inl a_t_powers)), (h_t_met, .inl (cI, 36000, .inl a_t_met)), (h_t_metSizes, .inl (cI, 3000, .inl a_t_metSizes))] H := hP
  have hD : va_D A [(h_t, .inr (8, [.int t_genus, .int t_marks, .ref h_t_powers, .int t_leaves, .int t_splits, .ref h_t_tree, .ref h_t_ahead, .ref h_t_behind, .ref h_t_before, .int t_done, .int t_undone, .ref h_t_rows, .ref h_t_met, .ref h_t_metSizes, .int (0 : Int32), .int t_treesSeen, .ref h_t_chosen, .ref h_t_tape, .int t_taped, .int t_place, .int t_isWrong, .int t_toldGenus, .int t_toldMarks, .ref h_t_toldPowers, .ref h_t_powerPlaces, .int t_isTree, .int t_toldLeaves, .int t_leavesPlace, .int t_toldSplits, .ref h_t_toldTree, .ref h_t_splitPlaces, .ref h_t_layers, .int t_isWhy, .ref h_t_paper, .int t_papered, .ref h_t_held, .ref h_t_numbers, .ref h_t_sizes, .ref h_t_heldLeaves, .ref h_t_items, .ref h_t_kept, .int t_isKept])), (h_t_rows, .inl (cI, 480, .inl (x1.2))), (h_t_powers, .inl (cI, 8, .inl a_t_powers)), (h_t_met, .inl (cI, 36000, .inl a_t_met)), (h_t_metSizes, .inl (cI, 3000, .inl a_t_metSizes))] := hD
  refine lv_iconst (v := (0 : Int32)) hx hb dX9_met_14 (by decide) ?_
  refine lv_istore_n (lv' := [(1, .int (0 : Int32)), (0, .ref h_t)]) hx hb dX9_met_15 rfl hl (by decide) rfl (fun ls hl => ?_)
  have hL16 : ∀ (n16 : Nat) (vL16_0 : Nat → Int32) (vL16_1 : Int32) (H : Heap) (locs : List Loc) (ls : Array Slot), va_P G vwCl [(h_t, .inr (8, [.int t_genus, .int t_marks, .ref h_t_powers, .int t_leaves, .int t_splits, .ref h_t_tree, .ref h_t_ahead, .ref h_t_behind, .ref h_t_before, .int t_done, .int t_undone, .ref h_t_rows, .ref h_t_met, .ref h_t_metSizes, .int (0 : Int32), .int t_treesSeen, .ref h_t_chosen, .ref h_t_tape, .int t_taped, .int t_place, .int t_isWrong, .int t_toldGenus, .int t_toldMarks, .ref h_t_toldPowers, .ref h_t_powerPlaces, .int t_isTree, .int t_toldLeaves, .int t_leavesPlace, .int t_toldSplits, .ref h_t_toldTree, .ref h_t_splitPlaces, .ref h_t_layers, .int t_isWhy, .ref h_t_paper, .int t_papered, .ref h_t_held, .ref h_t_numbers, .ref h_t_sizes, .ref h_t_heldLeaves, .ref h_t_items, .ref h_t_kept, .int t_isKept])), (h_t_rows, .inl (cI, 480, .inl (x1.2))), (h_t_powers, .inl (cI, 8, .inl a_t_powers)), (h_t_met, .inl (cI, 36000, .inl vL16_0)), (h_t_metSizes, .inl (cI, 3000, .inl a_t_metSizes))] H → va_D A [(h_t, .inr (8, [.int t_genus, .int t_marks, .ref h_t_powers, .int t_leaves, .int t_splits, .ref h_t_tree, .ref h_t_ahead, .ref h_t_behind, .ref h_t_before, .int t_done, .int t_undone, .ref h_t_rows, .ref h_t_met, .ref h_t_metSizes, .int (0 : Int32), .int t_treesSeen, .ref h_t_chosen, .ref h_t_tape, .int t_taped, .int t_place, .int t_isWrong, .int t_toldGenus, .int t_toldMarks, .ref h_t_toldPowers, .ref h_t_powerPlaces, .int t_isTree, .int t_toldLeaves, .int t_leavesPlace, .int t_toldSplits, .ref h_t_toldTree, .ref h_t_splitPlaces, .ref h_t_layers, .int t_isWhy, .ref h_t_paper, .int t_papered, .ref h_t_held, .ref h_t_numbers, .ref h_t_sizes, .ref h_t_heldLeaves, .ref h_t_items, .ref h_t_kept, .int t_isKept])), (h_t_rows, .inl (cI, 480, .inl (x1.2))), (h_t_powers, .inl (cI, 8, .inl a_t_powers)), (h_t_met, .inl (cI, 36000, .inl vL16_0)), (h_t_metSizes, .inl (cI, 3000, .inl a_t_metSizes))] → va_S A s.heap H locs → lv_has ls 5 [(0, .ref h_t), (1, .int vL16_1)] → wq2 (B_X9_met_16 t_marks a_t_powers (K_X9_met_16_42 t_genus t_marks a_t_metSizes x1)) n16 vL16_0 vL16_1 = some (r0, w0, w1, w2, w3) → W p l e (headSpec wsX9_met ({ frames := 3, cells := 0, slots := 0, locals := 69 })).room s m ([.ref h_t] : List Value).toArray below meth c H locs 0 0 (MQ below (va_Qi (fun r (_ : Unit) => r = r0 ∧ True) (fun _ t => va_P G vwCl [(h_t, .inr (8, [.int t_genus, .int t_marks, .ref h_t_powers, .int t_leaves, .int t_splits, .ref h_t_tree, .ref h_t_ahead, .ref h_t_behind, .ref h_t_before, .int t_done, .int t_undone, .ref h_t_rows, .ref h_t_met, .ref h_t_metSizes, .int w3, .int t_treesSeen, .ref h_t_chosen, .ref h_t_tape, .int t_taped, .int t_place, .int t_isWrong, .int t_toldGenus, .int t_toldMarks, .ref h_t_toldPowers, .ref h_t_powerPlaces, .int t_isTree, .int t_toldLeaves, .int t_leavesPlace, .int t_toldSplits, .ref h_t_toldTree, .ref h_t_splitPlaces, .ref h_t_layers, .int t_isWhy, .ref h_t_paper, .int t_papered, .ref h_t_held, .ref h_t_numbers, .ref h_t_sizes, .ref h_t_heldLeaves, .ref h_t_items, .ref h_t_kept, .int t_isKept])), (h_t_rows, .inl (cI, 480, .inl w0)), (h_t_powers, .inl (cI, 8, .inl a_t_powers)), (h_t_met, .inl (cI, 36000, .inl w1)), (h_t_metSizes, .inl (cI, 3000, .inl w2))] t.heap) A) ([.ref h_t] : List Value).toArray s 0 0 A) (F0 m 16 ls []) := by
    intro n16
    induction n16 with
    | zero => intro vL16_0 vL16_1 H locs ls hP hD hS hl h; exact wq2_0 h
    | succ n16 ih16 =>
      intro vL16_0 vL16_1 H locs ls hP hD hS hl h
      have h := wq2_s h
      unfold B_X9_met_16 at h
      refine lv_iload_n hx hb dX9_met_16 rfl (lv_at hl 1 rfl) ?_
      refine lv_aload_n hx hb dX9_met_17 rfl (lv_at hl 0 rfl) ?_
      refine va_get (D := G) (ci := 8) (v := .int t_marks) (C := RX9) (T := TX9) (N := 42) hx hb hts hinX9 hown hK hP 0 rfl rfl 1 (by decide) (hta _ mw_641) (fun _ h9 => h9) rfl dX9_met_18 ?_
      refine lv_icmp_ge (tgt := 42) hx hb dX9_met_21 (by decide) (fun c17 => ?_) (fun c17 => ?_)
      · have h := it_p h c17
        exact tK_X9_met_16_42 hx hb hr hml hts hown hlocks hK hA vL16_0 _ _ _ hP hD hS (lv_sub hl [0] rfl) h
      have h := it_n h c17
      refine lv_aload_n hx hb dX9_met_24 rfl (lv_at hl 0 rfl) ?_
      refine va_get (D := G) (ci := 8) (v := .ref h_t_met) (C := RX9) (T := TX9) (N := 42) hx hb hts hinX9 hown hK hP 0 rfl rfl 12 (by decide) (hta _ mw_616) (fun _ h9 => h9) rfl dX9_met_25 ?_
      refine lv_iload_n hx hb dX9_met_28 rfl (lv_at hl 1 rfl) ?_
      refine lv_aload_n hx hb dX9_met_29 rfl (lv_at hl 0 rfl) ?_
      refine va_get (D := G) (ci := 8) (v := .ref h_t_powers) (C := RX9) (T := TX9) (N := 42) hx hb hts hinX9 hown hK hP 0 rfl rfl 2 (by decide) (hta _ mw_608) (fun _ h9 => h9) rfl dX9_met_30 ?_
      refine lv_iload_n hx hb dX9_met_33 rfl (lv_at hl 1 rfl) ?_
      obtain ⟨hn18, h⟩ := ck_e h
      refine va_iald hx hb hK hP 2 0 rfl rfl hn18 dX9_met_34 ?_
      obtain ⟨hn19, h⟩ := ck_e h
      refine va_iast hx hb hK hP hD hS 3 0 rfl rfl hn19 dX9_met_35 (fun H locs hP hD hS => ?_)
      have hP : va_P G vwCl [(h_t, .inr (8, [.int t_genus, .int t_marks, .ref h_t_powers, .int t_leaves, .int t_splits, .ref h_t_tree, .ref h_t_ahead, .ref h_t_behind, .ref h_t_before, .int t_done, .int t_undone, .ref h_t_rows, .ref h_t_met, .ref h_t_metSizes, .int (0 : Int32), .int t_treesSeen, .ref h_t_chosen, .ref h_t_tape, .int t_taped, .int t_place, .int t_isWrong, .int t_toldGenus, .int t_toldMarks, .ref h_t_toldPowers, .ref h_t_powerPlaces, .int t_isTree, .int t_toldLeaves, .int t_leavesPlace, .int t_toldSplits, .ref h_t_toldTree, .ref h_t_splitPlaces, .ref h_t_layers, .int t_isWhy, .ref h_t_paper, .int t_papered, .ref h_t_held, .ref h_t_numbers, .ref h_t_sizes, .ref h_t_heldLeaves, .ref h_t_items, .ref h_t_kept, .int t_isKept])), (h_t_rows, .inl (cI, 480, .inl (x1.2))), (h_t_powers, .inl (cI, 8, .inl a_t_powers)), (h_t_met, .inl (cI, 36000, .inl (upd vL16_0 vL16_1.toNatClampNeg (a_t_powers vL16_1.toNatClampNeg)))), (h_t_metSizes, .inl (cI, 3000, .inl a_t_metSizes))] H := hP
      have hD : va_D A [(h_t, .inr (8, [.int t_genus, .int t_marks, .ref h_t_powers, .int t_leaves, .int t_splits, .ref h_t_tree, .ref h_t_ahead, .ref h_t_behind, .ref h_t_before, .int t_done, .int t_undone, .ref h_t_rows, .ref h_t_met, .ref h_t_metSizes, .int (0 : Int32), .int t_treesSeen, .ref h_t_chosen, .ref h_t_tape, .int t_taped, .int t_place, .int t_isWrong, .int t_toldGenus, .int t_toldMarks, .ref h_t_toldPowers, .ref h_t_powerPlaces, .int t_isTree, .int t_toldLeaves, .int t_leavesPlace, .int t_toldSplits, .ref h_t_toldTree, .ref h_t_splitPlaces, .ref h_t_layers, .int t_isWhy, .ref h_t_paper, .int t_papered, .ref h_t_held, .ref h_t_numbers, .ref h_t_sizes, .ref h_t_heldLeaves, .ref h_t_items, .ref h_t_kept, .int t_isKept])), (h_t_rows, .inl (cI, 480, .inl (x1.2))), (h_t_powers, .inl (cI, 8, .inl a_t_powers)), (h_t_met, .inl (cI, 36000, .inl (upd vL16_0 vL16_1.toNatClampNeg (a_t_powers vL16_1.toNatClampNeg)))), (h_t_metSizes, .inl (cI, 3000, .inl a_t_metSizes))] := hD
      refine lv_iinc (v := (vL16_1 + (1 : Int32))) (lv' := [(1, .int (vL16_1 + (1 : Int32))), (0, .ref h_t)]) hx hb dX9_met_36 hl (k := 1) rfl (by first | rfl | decide) (by decide) rfl (fun ls hl => ?_)
      refine lv_goto (tgt := 16) hx hb dX9_met_39 (by decide) ?_
      exact ih16 (upd vL16_0 vL16_1.toNatClampNeg (a_t_powers vL16_1.toNatClampNeg)) (vL16_1 + (1 : Int32)) _ _ _ hP hD hS (lv_sub hl [1, 0] rfl) h
  exact hL16 FU a_t_met (0 : Int32) _ _ _ hP hD hS (lv_sub hl [1, 0] rfl) h

/-! X9_withMore -/
set_option maxHeartbeats 4000000 in
set_option maxRecDepth 100000 in
theorem tJ_X9_withMore_89 {l : Launch} {G : va_G} {cI cJ cD cH : ClassId} {h_t : Nat} {h_t_rows : Nat} {h_t_powers : Nat} {h_t_tree : Nat} {h_t_ahead : Nat} {h_t_behind : Nat} {h_t_before : Nat} {h_t_met : Nat} {h_t_metSizes : Nat} {h_t_chosen : Nat} {h_t_tape : Nat} {h_t_toldPowers : Nat} {h_t_powerPlaces : Nat} {h_t_toldTree : Nat} {h_t_splitPlaces : Nat} {h_t_layers : Nat} {h_t_paper : Nat} {h_t_held : Nat} {h_t_numbers : Nat} {h_t_sizes : Nat} {h_t_heldLeaves : Nat} {h_t_items : Nat} {h_t_kept : Nat} {t_genus : Int32} {t_marks : Int32} {t_leaves : Int32} {t_splits : Int32} {t_done : Int32} {t_undone : Int32} {t_metMany : Int32} {t_treesSeen : Int32} {t_taped : Int32} {t_place : Int32} {t_isWrong : Int32} {t_toldGenus : Int32} {t_toldMarks : Int32} {t_isTree : Int32} {t_toldLeaves : Int32} {t_leavesPlace : Int32} {t_toldSplits : Int32} {t_isWhy : Int32} {t_papered : Int32} {t_isKept : Int32} {a_t_powers : Nat → Int32} {p0 : Int32} {p1 : Int32} {p2 : Int32} {p3 : Int32} {r0 : Int64} {w0 : Nat → Int32} {p : Program} {e : Env} {s : State} {m : MethodId} {below : List Frame} {meth : Method} {c : Code} {A : Nat → Prop} (hx : p.tables.exec = Jvm.exec) (hb : c.code = cX9_withMore) (hr : meth.sig.returnType = (some .long)) (hml : c.maxLocals = 6) (hts : ∀ w ∈ wsX9_withMore, w.before ([.ref h_t, .int p0, .int p1, .int p2, .int p3] : List Value).toArray s = true) (hown : s.vm.findClass RX9 = some m.cls) (hlocks : meth.locks = false) (hK : va_K G vwCl (k_T cI cJ cD cH) s) (hA : ∀ q : Nat, s.heap.size ≤ q → A q) : ∀  (vJ89_0 : Nat → Int32) (H : Heap) (locs : List Loc) (ls : Array Slot), va_P G vwCl [(h_t, .inr (8, [.int t_genus, .int t_marks, .ref h_t_powers, .int t_leaves, .int t_splits, .ref h_t_tree, .ref h_t_ahead, .ref h_t_behind, .ref h_t_before, .int t_done, .int t_undone, .ref h_t_rows, .ref h_t_met, .ref h_t_metSizes, .int t_metMany, .int t_treesSeen, .ref h_t_chosen, .ref h_t_tape, .int t_taped, .int t_place, .int t_isWrong, .int t_toldGenus, .int t_toldMarks, .ref h_t_toldPowers, .ref h_t_powerPlaces, .int t_isTree, .int t_toldLeaves, .int t_leavesPlace, .int t_toldSplits, .ref h_t_toldTree, .ref h_t_splitPlaces, .ref h_t_layers, .int t_isWhy, .ref h_t_paper, .int t_papered, .ref h_t_held, .ref h_t_numbers, .ref h_t_sizes, .ref h_t_heldLeaves, .ref h_t_items, .ref h_t_kept, .int t_isKept])), (h_t_rows, .inl (cI, 480, .inl vJ89_0)), (h_t_powers, .inl (cI, 8, .inl a_t_powers))] H → va_D A [(h_t, .inr (8, [.int t_genus, .int t_marks, .ref h_t_powers, .int t_leaves, .int t_splits, .ref h_t_tree, .ref h_t_ahead, .ref h_t_behind, .ref h_t_before, .int t_done, .int t_undone, .ref h_t_rows, .ref h_t_met, .ref h_t_metSizes, .int t_metMany, .int t_treesSeen, .ref h_t_chosen, .ref h_t_tape, .int t_taped, .int t_place, .int t_isWrong, .int t_toldGenus, .int t_toldMarks, .ref h_t_toldPowers, .ref h_t_powerPlaces, .int t_isTree, .int t_toldLeaves, .int t_leavesPlace, .int t_toldSplits, .ref h_t_toldTree, .ref h_t_splitPlaces, .ref h_t_layers, .int t_isWhy, .ref h_t_paper, .int t_papered, .ref h_t_held, .ref h_t_numbers, .ref h_t_sizes, .ref h_t_heldLeaves, .ref h_t_items, .ref h_t_kept, .int t_isKept])), (h_t_rows, .inl (cI, 480, .inl vJ89_0)), (h_t_powers, .inl (cI, 8, .inl a_t_powers))] → va_S A s.heap H locs → lv_has ls 6 [(0, .ref h_t), (4, .int p3)] → J_X9_withMore_89 t_genus t_marks p3 vJ89_0 = some (r0, w0) → W p l e (headSpec wsX9_withMore ({ frames := 20, cells := 0, slots := 0, locals := 580 })).room s m ([.ref h_t, .int p0, .int p1, .int p2, .int p3] : List Value).toArray below meth c H locs 0 0 (MQ below (va_Ql (fun r (_ : Unit) => r = r0 ∧ True) (fun _ t => va_P G vwCl [(h_t, .inr (8, [.int t_genus, .int t_marks, .ref h_t_powers, .int t_leaves, .int t_splits, .ref h_t_tree, .ref h_t_ahead, .ref h_t_behind, .ref h_t_before, .int t_done, .int t_undone, .ref h_t_rows, .ref h_t_met, .ref h_t_metSizes, .int t_metMany, .int t_treesSeen, .ref h_t_chosen, .ref h_t_tape, .int t_taped, .int t_place, .int t_isWrong, .int t_toldGenus, .int t_toldMarks, .ref h_t_toldPowers, .ref h_t_powerPlaces, .int t_isTree, .int t_toldLeaves, .int t_leavesPlace, .int t_toldSplits, .ref h_t_toldTree, .ref h_t_splitPlaces, .ref h_t_layers, .int t_isWhy, .ref h_t_paper, .int t_papered, .ref h_t_held, .ref h_t_numbers, .ref h_t_sizes, .ref h_t_heldLeaves, .ref h_t_items, .ref h_t_kept, .int t_isKept])), (h_t_rows, .inl (cI, 480, .inl w0)), (h_t_powers, .inl (cI, 8, .inl a_t_powers))] t.heap) A) ([.ref h_t, .int p0, .int p1, .int p2, .int p3] : List Value).toArray s 0 0 A) (F0 m 89 ls []) := by
  have hta : ∀ w ∈ wA, w.before ([.ref h_t, .int p0, .int p1, .int p2, .int p3] : List Value).toArray s = true := hta_of hts
  have hinX9 : ∀ w ∈ wsX90, w ∈ wsX9_withMore := hin_of in_X9
  intro vJ89_0 H locs ls hP hD hS hl h
  unfold J_X9_withMore_89 at h
  refine lv_aload_n hx hb dX9_withMore_89 rfl (lv_at hl 0 rfl) ?_
  refine lv_aload_n hx hb dX9_withMore_90 rfl (lv_at hl 0 rfl) ?_
  refine va_get (D := G) (ci := 8) (v := .int t_genus) (C := RX9) (T := TX9) (N := 42) hx hb hts hinX9 hown hK hP 0 rfl rfl 0 (by decide) (hta _ mw_640) (fun _ h9 => h9) rfl dX9_withMore_91 ?_
  refine lv_aload_n hx hb dX9_withMore_94 rfl (lv_at hl 0 rfl) ?_
  refine va_get (D := G) (ci := 8) (v := .int t_marks) (C := RX9) (T := TX9) (N := 42) hx hb hts hinX9 hown hK hP 0 rfl rfl 1 (by decide) (hta _ mw_641) (fun _ h9 => h9) rfl dX9_withMore_95 ?_
  refine lv_iload hx hb dX9_withMore_98 (lv_at hl 1 rfl) ?_
  refine lv_iadd hx hb dX9_withMore_100 ?_
  obtain ⟨x1, hx1, h⟩ := bd_e h
  try dsimp only at h
  refine k_VlM (n := 2) (As := [.int t_genus, .int (t_marks + p3)]) (rest := []) hx hb hml hown hts (c_X9_numberOf l G cI cJ cD cH H.size h_t h_t_rows h_t_powers h_t_tree h_t_ahead h_t_behind h_t_before h_t_met h_t_metSizes h_t_chosen h_t_tape h_t_toldPowers h_t_powerPlaces h_t_toldTree h_t_splitPlaces h_t_layers h_t_paper h_t_held h_t_numbers h_t_sizes h_t_heldLeaves h_t_items h_t_kept t_genus t_marks t_leaves t_splits t_done t_undone t_metMany t_treesSeen t_taped t_place t_isWrong t_toldGenus t_toldMarks t_isTree t_toldLeaves t_leavesPlace t_toldSplits t_isWhy t_papered t_isKept vJ89_0 t_genus (t_marks + p3) (x1.1) (x1.2) hx1) gX9_withMore_X9_numberOf rfl rfl rfl (by decide +kernel) ⟨by first | exact Nat.le_of_ble_eq_true rfl | (simp only [headSpec]; omega), by first | exact Nat.le_of_ble_eq_true rfl | (simp only [headSpec]; omega)⟩ hK hP hD hS hA [0, 1] (by decide) rfl rfl (ci := 8) rfl rfl rfl rfl rfl hl.1 (Nat.le_of_ble_eq_true rfl) dX9_withMore_101 ⟨Nat.zero_le _, Nat.zero_le _⟩ [(h_t, .inr (8, [.int t_genus, .int t_marks, .ref h_t_powers, .int t_leaves, .int t_splits, .ref h_t_tree, .ref h_t_ahead, .ref h_t_behind, .ref h_t_before, .int t_done, .int t_undone, .ref h_t_rows, .ref h_t_met, .ref h_t_metSizes, .int t_metMany, .int t_treesSeen, .ref h_t_chosen, .ref h_t_tape, .int t_taped, .int t_place, .int t_isWrong, .int t_toldGenus, .int t_toldMarks, .ref h_t_toldPowers, .ref h_t_powerPlaces, .int t_isTree, .int t_toldLeaves, .int t_leavesPlace, .int t_toldSplits, .ref h_t_toldTree, .ref h_t_splitPlaces, .ref h_t_layers, .int t_isWhy, .ref h_t_paper, .int t_papered, .ref h_t_held, .ref h_t_numbers, .ref h_t_sizes, .ref h_t_heldLeaves, .ref h_t_items, .ref h_t_kept, .int t_isKept])), (h_t_rows, .inl (cI, 480, .inl (x1.2))), (h_t_powers, .inl (cI, 8, .inl a_t_powers))] [1, 2, 0] 2 (by decide +kernel) rfl rfl rfl (fun hp1 H locs hP hD hS => ?_)
  have h9 := Option.some.inj h
  have e9 : (x1.1) = r0 := congrArg (fun z9 => z9.1) h9
  rw [← e9]
  have e9 : (x1.2) = w0 := congrArg (fun z9 => z9.2) h9
  rw [← e9]
  exact k_lret hx hb hr hlocks hP hS rfl dX9_withMore_104
set_option maxHeartbeats 4000000 in
set_option maxRecDepth 100000 in
theorem tJ_X9_withMore_69 {l : Launch} {G : va_G} {cI cJ cD cH : ClassId} {h_t : Nat} {h_t_rows : Nat} {h_t_powers : Nat} {h_t_tree : Nat} {h_t_ahead : Nat} {h_t_behind : Nat} {h_t_before : Nat} {h_t_met : Nat} {h_t_metSizes : Nat} {h_t_chosen : Nat} {h_t_tape : Nat} {h_t_toldPowers : Nat} {h_t_powerPlaces : Nat} {h_t_toldTree : Nat} {h_t_splitPlaces : Nat} {h_t_layers : Nat} {h_t_paper : Nat} {h_t_held : Nat} {h_t_numbers : Nat} {h_t_sizes : Nat} {h_t_heldLeaves : Nat} {h_t_items : Nat} {h_t_kept : Nat} {t_genus : Int32} {t_marks : Int32} {t_leaves : Int32} {t_splits : Int32} {t_done : Int32} {t_undone : Int32} {t_metMany : Int32} {t_treesSeen : Int32} {t_taped : Int32} {t_place : Int32} {t_isWrong : Int32} {t_toldGenus : Int32} {t_toldMarks : Int32} {t_isTree : Int32} {t_toldLeaves : Int32} {t_leavesPlace : Int32} {t_toldSplits : Int32} {t_isWhy : Int32} {t_papered : Int32} {t_isKept : Int32} {a_t_powers : Nat → Int32} {p0 : Int32} {p1 : Int32} {p2 : Int32} {p3 : Int32} {r0 : Int64} {w0 : Nat → Int32} {p : Program} {e : Env} {s : State} {m : MethodId} {below : List Frame} {meth : Method} {c : Code} {A : Nat → Prop} (hx : p.tables.exec = Jvm.exec) (hb : c.code = cX9_withMore) (hr : meth.sig.returnType = (some .long)) (hml : c.maxLocals = 6) (hts : ∀ w ∈ wsX9_withMore, w.before ([.ref h_t, .int p0, .int p1, .int p2, .int p3] : List Value).toArray s = true) (hown : s.vm.findClass RX9 = some m.cls) (hlocks : meth.locks = false) (hK : va_K G vwCl (k_T cI cJ cD cH) s) (hA : ∀ q : Nat, s.heap.size ≤ q → A q) : ∀  (vJ69_0 : Nat → Int32) (H : Heap) (locs : List Loc) (ls : Array Slot), va_P G vwCl [(h_t, .inr (8, [.int t_genus, .int t_marks, .ref h_t_powers, .int t_leaves, .int t_splits, .ref h_t_tree, .ref h_t_ahead, .ref h_t_behind, .ref h_t_before, .int t_done, .int t_undone, .ref h_t_rows, .ref h_t_met, .ref h_t_metSizes, .int t_metMany, .int t_treesSeen, .ref h_t_chosen, .ref h_t_tape, .int t_taped, .int t_place, .int t_isWrong, .int t_toldGenus, .int t_toldMarks, .ref h_t_toldPowers, .ref h_t_powerPlaces, .int t_isTree, .int t_toldLeaves, .int t_leavesPlace, .int t_toldSplits, .ref h_t_toldTree, .ref h_t_splitPlaces, .ref h_t_layers, .int t_isWhy, .ref h_t_paper, .int t_papered, .ref h_t_held, .ref h_t_numbers, .ref h_t_sizes, .ref h_t_heldLeaves, .ref h_t_items, .ref h_t_kept, .int t_isKept])), (h_t_rows, .inl (cI, 480, .inl vJ69_0)), (h_t_powers, .inl (cI, 8, .inl a_t_powers))] H → va_D A [(h_t, .inr (8, [.int t_genus, .int t_marks, .ref h_t_powers, .int t_leaves, .int t_splits, .ref h_t_tree, .ref h_t_ahead, .ref h_t_behind, .ref h_t_before, .int t_done, .int t_undone, .ref h_t_rows, .ref h_t_met, .ref h_t_metSizes, .int t_metMany, .int t_treesSeen, .ref h_t_chosen, .ref h_t_tape, .int t_taped, .int t_place, .int t_isWrong, .int t_toldGenus, .int t_toldMarks, .ref h_t_toldPowers, .ref h_t_powerPlaces, .int t_isTree, .int t_toldLeaves, .int t_leavesPlace, .int t_toldSplits, .ref h_t_toldTree, .ref h_t_splitPlaces, .ref h_t_layers, .int t_isWhy, .ref h_t_paper, .int t_papered, .ref h_t_held, .ref h_t_numbers, .ref h_t_sizes, .ref h_t_heldLeaves, .ref h_t_items, .ref h_t_kept, .int t_isKept])), (h_t_rows, .inl (cI, 480, .inl vJ69_0)), (h_t_powers, .inl (cI, 8, .inl a_t_powers))] → va_S A s.heap H locs → lv_has ls 6 [(0, .ref h_t), (3, .int p2), (4, .int p3)] → J_X9_withMore_69 t_genus t_marks p2 p3 vJ69_0 = some (r0, w0) → W p l e (headSpec wsX9_withMore ({ frames := 20, cells := 0, slots := 0, locals := 580 })).room s m ([.ref h_t, .int p0, .int p1, .int p2, .int p3] : List Value).toArray below meth c H locs 0 0 (MQ below (va_Ql (fun r (_ : Unit) => r = r0 ∧ True) (fun _ t => va_P G vwCl [(h_t, .inr (8, [.int t_genus, .int t_marks, .ref h_t_powers, .int t_leaves, .int t_splits, .ref h_t_tree, .ref h_t_ahead, .ref h_t_behind, .ref h_t_before, .int t_done, .int t_undone, .ref h_t_rows, .ref h_t_met, .ref h_t_metSizes, .int t_metMany, .int t_treesSeen, .ref h_t_chosen, .ref h_t_tape, .int t_taped, .int t_place, .int t_isWrong, .int t_toldGenus, .int t_toldMarks, .ref h_t_toldPowers, .ref h_t_powerPlaces, .int t_isTree, .int t_toldLeaves, .int t_leavesPlace, .int t_toldSplits, .ref h_t_toldTree, .ref h_t_splitPlaces, .ref h_t_layers, .int t_isWhy, .ref h_t_paper, .int t_papered, .ref h_t_held, .ref h_t_numbers, .ref h_t_sizes, .ref h_t_heldLeaves, .ref h_t_items, .ref h_t_kept, .int t_isKept])), (h_t_rows, .inl (cI, 480, .inl w0)), (h_t_powers, .inl (cI, 8, .inl a_t_powers))] t.heap) A) ([.ref h_t, .int p0, .int p1, .int p2, .int p3] : List Value).toArray s 0 0 A) (F0 m 69 ls []) := by
  have hta : ∀ w ∈ wA, w.before ([.ref h_t, .int p0, .int p1, .int p2, .int p3] : List Value).toArray s = true := hta_of hts
  have hinX9 : ∀ w ∈ wsX90, w ∈ wsX9_withMore := hin_of in_X9
  intro vJ69_0 H locs ls hP hD hS hl h
  unfold J_X9_withMore_69 at h
  refine lv_iload hx hb dX9_withMore_69 (lv_at hl 2 rfl) ?_
  refine lv_iconst (v := (2 : Int32)) hx hb dX9_withMore_71 (by decide) ?_
  refine lv_icmp_le (tgt := 89) hx hb dX9_withMore_72 (by decide) (fun c2 => ?_) (fun c2 => ?_)
  · have h := it_p h c2
    exact tJ_X9_withMore_89 hx hb hr hml hts hown hlocks hK hA vJ69_0 _ _ _ hP hD hS (lv_sub hl [0, 2] rfl) h
  have h := it_n h c2
  refine lv_aload_n hx hb dX9_withMore_75 rfl (lv_at hl 0 rfl) ?_
  refine va_get (D := G) (ci := 8) (v := .ref h_t_rows) (C := RX9) (T := TX9) (N := 42) hx hb hts hinX9 hown hK hP 0 rfl rfl 11 (by decide) (hta _ mw_614) (fun _ h9 => h9) rfl dX9_withMore_76 ?_
  refine lv_aload_n hx hb dX9_withMore_79 rfl (lv_at hl 0 rfl) ?_
  refine va_get (D := G) (ci := 8) (v := .int t_marks) (C := RX9) (T := TX9) (N := 42) hx hb hts hinX9 hown hK hP 0 rfl rfl 1 (by decide) (hta _ mw_641) (fun _ h9 => h9) rfl dX9_withMore_80 ?_
  refine lv_iconst (v := (2 : Int32)) hx hb dX9_withMore_83 (by decide) ?_
  refine lv_iadd hx hb dX9_withMore_84 ?_
  refine lv_iload_n hx hb dX9_withMore_85 rfl (lv_at hl 1 rfl) ?_
  refine lv_iconst (v := (1 : Int32)) hx hb dX9_withMore_86 (by decide) ?_
  refine lv_iadd hx hb dX9_withMore_87 ?_
  obtain ⟨hn3, h⟩ := ck_e h
  refine va_iast hx hb hK hP hD hS 1 0 rfl rfl hn3 dX9_withMore_88 (fun H locs hP hD hS => ?_)
  have hP : va_P G vwCl [(h_t, .inr (8, [.int t_genus, .int t_marks, .ref h_t_powers, .int t_leaves, .int t_splits, .ref h_t_tree, .ref h_t_ahead, .ref h_t_behind, .ref h_t_before, .int t_done, .int t_undone, .ref h_t_rows, .ref h_t_met, .ref h_t_metSizes, .int t_metMany, .int t_treesSeen, .ref h_t_chosen, .ref h_t_tape, .int t_taped, .int t_place, .int t_isWrong, .int t_toldGenus, .int t_toldMarks, .ref h_t_toldPowers, .ref h_t_powerPlaces, .int t_isTree, .int t_toldLeaves, .int t_leavesPlace, .int t_toldSplits, .ref h_t_toldTree, .ref h_t_splitPlaces, .ref h_t_layers, .int t_isWhy, .ref h_t_paper, .int t_papered, .ref h_t_held, .ref h_t_numbers, .ref h_t_sizes, .ref h_t_heldLeaves, .ref h_t_items, .ref h_t_kept, .int t_isKept])), (h_t_rows, .inl (cI, 480, .inl (upd vJ69_0 (t_marks + (2 : Int32)).toNatClampNeg (p2 + (1 : Int32))))), (h_t_powers, .inl (cI, 8, .inl a_t_powers))] H := hP
  have hD : va_D A [(h_t, .inr (8, [.int t_genus, .int t_marks, .ref h_t_powers, .int t_leaves, .int t_splits, .ref h_t_tree, .ref h_t_ahead, .ref h_t_behind, .ref h_t_before, .int t_done, .int t_undone, .ref h_t_rows, .ref h_t_met, .ref h_t_metSizes, .int t_metMany, .int t_treesSeen, .ref h_t_chosen, .ref h_t_tape, .int t_taped, .int t_place, .int t_isWrong, .int t_toldGenus, .int t_toldMarks, .ref h_t_toldPowers, .ref h_t_powerPlaces, .int t_isTree, .int t_toldLeaves, .int t_leavesPlace, .int t_toldSplits, .ref h_t_toldTree, .ref h_t_splitPlaces, .ref h_t_layers, .int t_isWhy, .ref h_t_paper, .int t_papered, .ref h_t_held, .ref h_t_numbers, .ref h_t_sizes, .ref h_t_heldLeaves, .ref h_t_items, .ref h_t_kept, .int t_isKept])), (h_t_rows, .inl (cI, 480, .inl (upd vJ69_0 (t_marks + (2 : Int32)).toNatClampNeg (p2 + (1 : Int32))))), (h_t_powers, .inl (cI, 8, .inl a_t_powers))] := hD
  exact tJ_X9_withMore_89 hx hb hr hml hts hown hlocks hK hA (upd vJ69_0 (t_marks + (2 : Int32)).toNatClampNeg (p2 + (1 : Int32))) _ _ _ hP hD hS (lv_sub hl [0, 2] rfl) h
set_option maxHeartbeats 4000000 in
set_option maxRecDepth 100000 in
theorem tJ_X9_withMore_49 {l : Launch} {G : va_G} {cI cJ cD cH : ClassId} {h_t : Nat} {h_t_rows : Nat} {h_t_powers : Nat} {h_t_tree : Nat} {h_t_ahead : Nat} {h_t_behind : Nat} {h_t_before : Nat} {h_t_met : Nat} {h_t_metSizes : Nat} {h_t_chosen : Nat} {h_t_tape : Nat} {h_t_toldPowers : Nat} {h_t_powerPlaces : Nat} {h_t_toldTree : Nat} {h_t_splitPlaces : Nat} {h_t_layers : Nat} {h_t_paper : Nat} {h_t_held : Nat} {h_t_numbers : Nat} {h_t_sizes : Nat} {h_t_heldLeaves : Nat} {h_t_items : Nat} {h_t_kept : Nat} {t_genus : Int32} {t_marks : Int32} {t_leaves : Int32} {t_splits : Int32} {t_done : Int32} {t_undone : Int32} {t_metMany : Int32} {t_treesSeen : Int32} {t_taped : Int32} {t_place : Int32} {t_isWrong : Int32} {t_toldGenus : Int32} {t_toldMarks : Int32} {t_isTree : Int32} {t_toldLeaves : Int32} {t_leavesPlace : Int32} {t_toldSplits : Int32} {t_isWhy : Int32} {t_papered : Int32} {t_isKept : Int32} {a_t_powers : Nat → Int32} {p0 : Int32} {p1 : Int32} {p2 : Int32} {p3 : Int32} {r0 : Int64} {w0 : Nat → Int32} {p : Program} {e : Env} {s : State} {m : MethodId} {below : List Frame} {meth : Method} {c : Code} {A : Nat → Prop} (hx : p.tables.exec = Jvm.exec) (hb : c.code = cX9_withMore) (hr : meth.sig.returnType = (some .long)) (hml : c.maxLocals = 6) (hts : ∀ w ∈ wsX9_withMore, w.before ([.ref h_t, .int p0, .int p1, .int p2, .int p3] : List Value).toArray s = true) (hown : s.vm.findClass RX9 = some m.cls) (hlocks : meth.locks = false) (hK : va_K G vwCl (k_T cI cJ cD cH) s) (hA : ∀ q : Nat, s.heap.size ≤ q → A q) : ∀  (vJ49_0 : Nat → Int32) (H : Heap) (locs : List Loc) (ls : Array Slot), va_P G vwCl [(h_t, .inr (8, [.int t_genus, .int t_marks, .ref h_t_powers, .int t_leaves, .int t_splits, .ref h_t_tree, .ref h_t_ahead, .ref h_t_behind, .ref h_t_before, .int t_done, .int t_undone, .ref h_t_rows, .ref h_t_met, .ref h_t_metSizes, .int t_metMany, .int t_treesSeen, .ref h_t_chosen, .ref h_t_tape, .int t_taped, .int t_place, .int t_isWrong, .int t_toldGenus, .int t_toldMarks, .ref h_t_toldPowers, .ref h_t_powerPlaces, .int t_isTree, .int t_toldLeaves, .int t_leavesPlace, .int t_toldSplits, .ref h_t_toldTree, .ref h_t_splitPlaces, .ref h_t_layers, .int t_isWhy, .ref h_t_paper, .int t_papered, .ref h_t_held, .ref h_t_numbers, .ref h_t_sizes, .ref h_t_heldLeaves, .ref h_t_items, .ref h_t_kept, .int t_isKept])), (h_t_rows, .inl (cI, 480, .inl vJ49_0)), (h_t_powers, .inl (cI, 8, .inl a_t_powers))] H → va_D A [(h_t, .inr (8, [.int t_genus, .int t_marks, .ref h_t_powers, .int t_leaves, .int t_splits, .ref h_t_tree, .ref h_t_ahead, .ref h_t_behind, .ref h_t_before, .int t_done, .int t_undone, .ref h_t_rows, .ref h_t_met, .ref h_t_metSizes, .int t_metMany, .int t_treesSeen, .ref h_t_chosen, .ref h_t_tape, .int t_taped, .int t_place, .int t_isWrong, .int t_toldGenus, .int t_toldMarks, .ref h_t_toldPowers, .ref h_t_powerPlaces, .int t_isTree, .int t_toldLeaves, .int t_leavesPlace, .int t_toldSplits, .ref h_t_toldTree, .ref h_t_splitPlaces, .ref h_t_layers, .int t_isWhy, .ref h_t_paper, .int t_papered, .ref h_t_held, .ref h_t_numbers, .ref h_t_sizes, .ref h_t_heldLeaves, .ref h_t_items, .ref h_t_kept, .int t_isKept])), (h_t_rows, .inl (cI, 480, .inl vJ49_0)), (h_t_powers, .inl (cI, 8, .inl a_t_powers))] → va_S A s.heap H locs → lv_has ls 6 [(0, .ref h_t), (2, .int p1), (3, .int p2), (4, .int p3)] → J_X9_withMore_49 t_genus t_marks p1 p2 p3 vJ49_0 = some (r0, w0) → W p l e (headSpec wsX9_withMore ({ frames := 20, cells := 0, slots := 0, locals := 580 })).room s m ([.ref h_t, .int p0, .int p1, .int p2, .int p3] : List Value).toArray below meth c H locs 0 0 (MQ below (va_Ql (fun r (_ : Unit) => r = r0 ∧ True) (fun _ t => va_P G vwCl [(h_t, .inr (8, [.int t_genus, .int t_marks, .ref h_t_powers, .int t_leaves, .int t_splits, .ref h_t_tree, .ref h_t_ahead, .ref h_t_behind, .ref h_t_before, .int t_done, .int t_undone, .ref h_t_rows, .ref h_t_met, .ref h_t_metSizes, .int t_metMany, .int t_treesSeen, .ref h_t_chosen, .ref h_t_tape, .int t_taped, .int t_place, .int t_isWrong, .int t_toldGenus, .int t_toldMarks, .ref h_t_toldPowers, .ref h_t_powerPlaces, .int t_isTree, .int t_toldLeaves, .int t_leavesPlace, .int t_toldSplits, .ref h_t_toldTree, .ref h_t_splitPlaces, .ref h_t_layers, .int t_isWhy, .ref h_t_paper, .int t_papered, .ref h_t_held, .ref h_t_numbers, .ref h_t_sizes, .ref h_t_heldLeaves, .ref h_t_items, .ref h_t_kept, .int t_isKept])), (h_t_rows, .inl (cI, 480, .inl w0)), (h_t_powers, .inl (cI, 8, .inl a_t_powers))] t.heap) A) ([.ref h_t, .int p0, .int p1, .int p2, .int p3] : List Value).toArray s 0 0 A) (F0 m 49 ls []) := by
  have hta : ∀ w ∈ wA, w.before ([.ref h_t, .int p0, .int p1, .int p2, .int p3] : List Value).toArray s = true := hta_of hts
  have hinX9 : ∀ w ∈ wsX90, w ∈ wsX9_withMore := hin_of in_X9
  intro vJ49_0 H locs ls hP hD hS hl h
  unfold J_X9_withMore_49 at h
  refine lv_iload hx hb dX9_withMore_49 (lv_at hl 3 rfl) ?_
  refine lv_iconst (v := (1 : Int32)) hx hb dX9_withMore_51 (by decide) ?_
  refine lv_icmp_le (tgt := 69) hx hb dX9_withMore_52 (by decide) (fun c4 => ?_) (fun c4 => ?_)
  · have h := it_p h c4
    exact tJ_X9_withMore_69 hx hb hr hml hts hown hlocks hK hA vJ49_0 _ _ _ hP hD hS (lv_sub hl [0, 2, 3] rfl) h
  have h := it_n h c4
  refine lv_aload_n hx hb dX9_withMore_55 rfl (lv_at hl 0 rfl) ?_
  refine va_get (D := G) (ci := 8) (v := .ref h_t_rows) (C := RX9) (T := TX9) (N := 42) hx hb hts hinX9 hown hK hP 0 rfl rfl 11 (by decide) (hta _ mw_614) (fun _ h9 => h9) rfl dX9_withMore_56 ?_
  refine lv_aload_n hx hb dX9_withMore_59 rfl (lv_at hl 0 rfl) ?_
  refine va_get (D := G) (ci := 8) (v := .int t_marks) (C := RX9) (T := TX9) (N := 42) hx hb hts hinX9 hown hK hP 0 rfl rfl 1 (by decide) (hta _ mw_641) (fun _ h9 => h9) rfl dX9_withMore_60 ?_
  refine lv_iconst (v := (1 : Int32)) hx hb dX9_withMore_63 (by decide) ?_
  refine lv_iadd hx hb dX9_withMore_64 ?_
  refine lv_iload_n hx hb dX9_withMore_65 rfl (lv_at hl 1 rfl) ?_
  refine lv_iconst (v := (1 : Int32)) hx hb dX9_withMore_66 (by decide) ?_
  refine lv_iadd hx hb dX9_withMore_67 ?_
  obtain ⟨hn5, h⟩ := ck_e h
  refine va_iast hx hb hK hP hD hS 1 0 rfl rfl hn5 dX9_withMore_68 (fun H locs hP hD hS => ?_)
  have hP : va_P G vwCl [(h_t, .inr (8, [.int t_genus, .int t_marks, .ref h_t_powers, .int t_leaves, .int t_splits, .ref h_t_tree, .ref h_t_ahead, .ref h_t_behind, .ref h_t_before, .int t_done, .int t_undone, .ref h_t_rows, .ref h_t_met, .ref h_t_metSizes, .int t_metMany, .int t_treesSeen, .ref h_t_chosen, .ref h_t_tape, .int t_taped, .int t_place, .int t_isWrong, .int t_toldGenus, .int t_toldMarks, .ref h_t_toldPowers, .ref h_t_powerPlaces, .int t_isTree, .int t_toldLeaves, .int t_leavesPlace, .int t_toldSplits, .ref h_t_toldTree, .ref h_t_splitPlaces, .ref h_t_layers, .int t_isWhy, .ref h_t_paper, .int t_papered, .ref h_t_held, .ref h_t_numbers, .ref h_t_sizes, .ref h_t_heldLeaves, .ref h_t_items, .ref h_t_kept, .int t_isKept])), (h_t_rows, .inl (cI, 480, .inl (upd vJ49_0 (t_marks + (1 : Int32)).toNatClampNeg (p1 + (1 : Int32))))), (h_t_powers, .inl (cI, 8, .inl a_t_powers))] H := hP
  have hD : va_D A [(h_t, .inr (8, [.int t_genus, .int t_marks, .ref h_t_powers, .int t_leaves, .int t_splits, .ref h_t_tree, .ref h_t_ahead, .ref h_t_behind, .ref h_t_before, .int t_done, .int t_undone, .ref h_t_rows, .ref h_t_met, .ref h_t_metSizes, .int t_metMany, .int t_treesSeen, .ref h_t_chosen, .ref h_t_tape, .int t_taped, .int t_place, .int t_isWrong, .int t_toldGenus, .int t_toldMarks, .ref h_t_toldPowers, .ref h_t_powerPlaces, .int t_isTree, .int t_toldLeaves, .int t_leavesPlace, .int t_toldSplits, .ref h_t_toldTree, .ref h_t_splitPlaces, .ref h_t_layers, .int t_isWhy, .ref h_t_paper, .int t_papered, .ref h_t_held, .ref h_t_numbers, .ref h_t_sizes, .ref h_t_heldLeaves, .ref h_t_items, .ref h_t_kept, .int t_isKept])), (h_t_rows, .inl (cI, 480, .inl (upd vJ49_0 (t_marks + (1 : Int32)).toNatClampNeg (p1 + (1 : Int32))))), (h_t_powers, .inl (cI, 8, .inl a_t_powers))] := hD
  exact tJ_X9_withMore_69 hx hb hr hml hts hown hlocks hK hA (upd vJ49_0 (t_marks + (1 : Int32)).toNatClampNeg (p1 + (1 : Int32))) _ _ _ hP hD hS (lv_sub hl [0, 2, 3] rfl) h
set_option maxHeartbeats 4000000 in
set_option maxRecDepth 100000 in
theorem tK_X9_withMore_3_32 {l : Launch} {G : va_G} {cI cJ cD cH : ClassId} {h_t : Nat} {h_t_rows : Nat} {h_t_powers : Nat} {h_t_tree : Nat} {h_t_ahead : Nat} {h_t_behind : Nat} {h_t_before : Nat} {h_t_met : Nat} {h_t_metSizes : Nat} {h_t_chosen : Nat} {h_t_tape : Nat} {h_t_toldPowers : Nat} {h_t_powerPlaces : Nat} {h_t_toldTree : Nat} {h_t_splitPlaces : Nat} {h_t_layers : Nat} {h_t_paper : Nat} {h_t_held : Nat} {h_t_numbers : Nat} {h_t_sizes : Nat} {h_t_heldLeaves : Nat} {h_t_items : Nat} {h_t_kept : Nat} {t_genus : Int32} {t_marks : Int32} {t_leaves : Int32} {t_splits : Int32} {t_done : Int32} {t_undone : Int32} {t_metMany : Int32} {t_treesSeen : Int32} {t_taped : Int32} {t_place : Int32} {t_isWrong : Int32} {t_toldGenus : Int32} {t_toldMarks : Int32} {t_isTree : Int32} {t_toldLeaves : Int32} {t_leavesPlace : Int32} {t_toldSplits : Int32} {t_isWhy : Int32} {t_papered : Int32} {t_isKept : Int32} {a_t_powers : Nat → Int32} {p0 : Int32} {p1 : Int32} {p2 : Int32} {p3 : Int32} {r0 : Int64} {w0 : Nat → Int32} {p : Program} {e : Env} {s : State} {m : MethodId} {below : List Frame} {meth : Method} {c : Code} {A : Nat → Prop} (hx : p.tables.exec = Jvm.exec) (hb : c.code = cX9_withMore) (hr : meth.sig.returnType = (some .long)) (hml : c.maxLocals = 6) (hts : ∀ w ∈ wsX9_withMore, w.before ([.ref h_t, .int p0, .int p1, .int p2, .int p3] : List Value).toArray s = true) (hown : s.vm.findClass RX9 = some m.cls) (hlocks : meth.locks = false) (hK : va_K G vwCl (k_T cI cJ cD cH) s) (hA : ∀ q : Nat, s.heap.size ≤ q → A q) : ∀  (vK3_32_0 : Nat → Int32) (H : Heap) (locs : List Loc) (ls : Array Slot), va_P G vwCl [(h_t, .inr (8, [.int t_genus, .int t_marks, .ref h_t_powers, .int t_leaves, .int t_splits, .ref h_t_tree, .ref h_t_ahead, .ref h_t_behind, .ref h_t_before, .int t_done, .int t_undone, .ref h_t_rows, .ref h_t_met, .ref h_t_metSizes, .int t_metMany, .int t_treesSeen, .ref h_t_chosen, .ref h_t_tape, .int t_taped, .int t_place, .int t_isWrong, .int t_toldGenus, .int t_toldMarks, .ref h_t_toldPowers, .ref h_t_powerPlaces, .int t_isTree, .int t_toldLeaves, .int t_leavesPlace, .int t_toldSplits, .ref h_t_toldTree, .ref h_t_splitPlaces, .ref h_t_layers, .int t_isWhy, .ref h_t_paper, .int t_papered, .ref h_t_held, .ref h_t_numbers, .ref h_t_sizes, .ref h_t_heldLeaves, .ref h_t_items, .ref h_t_kept, .int t_isKept])), (h_t_rows, .inl (cI, 480, .inl vK3_32_0)), (h_t_powers, .inl (cI, 8, .inl a_t_powers))] H → va_D A [(h_t, .inr (8, [.int t_genus, .int t_marks, .ref h_t_powers, .int t_leaves, .int t_splits, .ref h_t_tree, .ref h_t_ahead, .ref h_t_behind, .ref h_t_before, .int t_done, .int t_undone, .ref h_t_rows, .ref h_t_met, .ref h_t_metSizes, .int t_metMany, .int t_treesSeen, .ref h_t_chosen, .ref h_t_tape, .int t_taped, .int t_place, .int t_isWrong, .int t_toldGenus, .int t_toldMarks, .ref h_t_toldPowers, .ref h_t_powerPlaces, .int t_isTree, .int t_toldLeaves, .int t_leavesPlace, .int t_toldSplits, .ref h_t_toldTree, .ref h_t_splitPlaces, .ref h_t_layers, .int t_isWhy, .ref h_t_paper, .int t_papered, .ref h_t_held, .ref h_t_numbers, .ref h_t_sizes, .ref h_t_heldLeaves, .ref h_t_items, .ref h_t_kept, .int t_isKept])), (h_t_rows, .inl (cI, 480, .inl vK3_32_0)), (h_t_powers, .inl (cI, 8, .inl a_t_powers))] → va_S A s.heap H locs → lv_has ls 6 [(0, .ref h_t), (1, .int p0), (2, .int p1), (3, .int p2), (4, .int p3)] → K_X9_withMore_3_32 t_genus t_marks p0 p1 p2 p3 vK3_32_0 = some (r0, w0) → W p l e (headSpec wsX9_withMore ({ frames := 20, cells := 0, slots := 0, locals := 580 })).room s m ([.ref h_t, .int p0, .int p1, .int p2, .int p3] : List Value).toArray below meth c H locs 0 0 (MQ below (va_Ql (fun r (_ : Unit) => r = r0 ∧ True) (fun _ t => va_P G vwCl [(h_t, .inr (8, [.int t_genus, .int t_marks, .ref h_t_powers, .int t_leaves, .int t_splits, .ref h_t_tree, .ref h_t_ahead, .ref h_t_behind, .ref h_t_before, .int t_done, .int t_undone, .ref h_t_rows, .ref h_t_met, .ref h_t_metSizes, .int t_metMany, .int t_treesSeen, .ref h_t_chosen, .ref h_t_tape, .int t_taped, .int t_place, .int t_isWrong, .int t_toldGenus, .int t_toldMarks, .ref h_t_toldPowers, .ref h_t_powerPlaces, .int t_isTree, .int t_toldLeaves, .int t_leavesPlace, .int t_toldSplits, .ref h_t_toldTree, .ref h_t_splitPlaces, .ref h_t_layers, .int t_isWhy, .ref h_t_paper, .int t_papered, .ref h_t_held, .ref h_t_numbers, .ref h_t_sizes, .ref h_t_heldLeaves, .ref h_t_items, .ref h_t_kept, .int t_isKept])), (h_t_rows, .inl (cI, 480, .inl w0)), (h_t_powers, .inl (cI, 8, .inl a_t_powers))] t.heap) A) ([.ref h_t, .int p0, .int p1, .int p2, .int p3] : List Value).toArray s 0 0 A) (F0 m 32 ls []) := by
  have hta : ∀ w ∈ wA, w.before ([.ref h_t, .int p0, .int p1, .int p2, .int p3] : List Value).toArray s = true := hta_of hts
  have hinX9 : ∀ w ∈ wsX90, w ∈ wsX9_withMore := hin_of in_X9
  intro vK3_32_0 H locs ls hP hD hS hl h
  unfold K_X9_withMore_3_32 at h
  refine lv_iload hx hb dX9_withMore_32 (lv_at hl 4 rfl) ?_
  refine lv_if_le (tgt := 49) hx hb dX9_withMore_34 (by decide) (fun c6 => ?_) (fun c6 => ?_)
  · have h := it_p h c6
    exact tJ_X9_withMore_49 hx hb hr hml hts hown hlocks hK hA vK3_32_0 _ _ _ hP hD hS (lv_sub hl [0, 2, 3, 4] rfl) h
  have h := it_n h c6
  refine lv_aload_n hx hb dX9_withMore_37 rfl (lv_at hl 0 rfl) ?_
  refine va_get (D := G) (ci := 8) (v := .ref h_t_rows) (C := RX9) (T := TX9) (N := 42) hx hb hts hinX9 hown hK hP 0 rfl rfl 11 (by decide) (hta _ mw_614) (fun _ h9 => h9) rfl dX9_withMore_38 ?_
  refine lv_aload_n hx hb dX9_withMore_41 rfl (lv_at hl 0 rfl) ?_
  refine va_get (D := G) (ci := 8) (v := .int t_marks) (C := RX9) (T := TX9) (N := 42) hx hb hts hinX9 hown hK hP 0 rfl rfl 1 (by decide) (hta _ mw_641) (fun _ h9 => h9) rfl dX9_withMore_42 ?_
  refine lv_iload_n hx hb dX9_withMore_45 rfl (lv_at hl 1 rfl) ?_
  refine lv_iconst (v := (1 : Int32)) hx hb dX9_withMore_46 (by decide) ?_
  refine lv_iadd hx hb dX9_withMore_47 ?_
  obtain ⟨hn7, h⟩ := ck_e h
  refine va_iast hx hb hK hP hD hS 1 0 rfl rfl hn7 dX9_withMore_48 (fun H locs hP hD hS => ?_)
  have hP : va_P G vwCl [(h_t, .inr (8, [.int t_genus, .int t_marks, .ref h_t_powers, .int t_leaves, .int t_splits, .ref h_t_tree, .ref h_t_ahead, .ref h_t_behind, .ref h_t_before, .int t_done, .int t_undone, .ref h_t_rows, .ref h_t_met, .ref h_t_metSizes, .int t_metMany, .int t_treesSeen, .ref h_t_chosen, .ref h_t_tape, .int t_taped, .int t_place, .int t_isWrong, .int t_toldGenus, .int t_toldMarks, .ref h_t_toldPowers, .ref h_t_powerPlaces, .int t_isTree, .int t_toldLeaves, .int t_leavesPlace, .int t_toldSplits, .ref h_t_toldTree, .ref h_t_splitPlaces, .ref h_t_layers, .int t_isWhy, .ref h_t_paper, .int t_papered, .ref h_t_held, .ref h_t_numbers, .ref h_t_sizes, .ref h_t_heldLeaves, .ref h_t_items, .ref h_t_kept, .int t_isKept])), (h_t_rows, .inl (cI, 480, .inl (upd vK3_32_0 t_marks.toNatClampNeg (p0 + (1 : Int32))))), (h_t_powers, .inl (cI, 8, .inl a_t_powers))] H := hP
  have hD : va_D A [(h_t, .inr (8, [.int t_genus, .int t_marks, .ref h_t_powers, .int t_leaves, .int t_splits, .ref h_t_tree, .ref h_t_ahead, .ref h_t_behind, .ref h_t_before, .int t_done, .int t_undone, .ref h_t_rows, .ref h_t_met, .ref h_t_metSizes, .int t_metMany, .int t_treesSeen, .ref h_t_chosen, .ref h_t_tape, .int t_taped, .int t_place, .int t_isWrong, .int t_toldGenus, .int t_toldMarks, .ref h_t_toldPowers, .ref h_t_powerPlaces, .int t_isTree, .int t_toldLeaves, .int t_leavesPlace, .int t_toldSplits, .ref h_t_toldTree, .ref h_t_splitPlaces, .ref h_t_layers, .int t_isWhy, .ref h_t_paper, .int t_papered, .ref h_t_held, .ref h_t_numbers, .ref h_t_sizes, .ref h_t_heldLeaves, .ref h_t_items, .ref h_t_kept, .int t_isKept])), (h_t_rows, .inl (cI, 480, .inl (upd vK3_32_0 t_marks.toNatClampNeg (p0 + (1 : Int32))))), (h_t_powers, .inl (cI, 8, .inl a_t_powers))] := hD
  exact tJ_X9_withMore_49 hx hb hr hml hts hown hlocks hK hA (upd vK3_32_0 t_marks.toNatClampNeg (p0 + (1 : Int32))) _ _ _ hP hD hS (lv_sub hl [0, 2, 3, 4] rfl) h
set_option maxHeartbeats 4000000 in
set_option maxRecDepth 100000 in
theorem c_X9_withMore (l : Launch) (G : va_G) (cI cJ cD cH : ClassId) (sz : Nat) (h_t : Nat) (h_t_rows : Nat) (h_t_powers : Nat) (h_t_tree : Nat) (h_t_ahead : Nat) (h_t_behind : Nat) (h_t_before : Nat) (h_t_met : Nat) (h_t_metSizes : Nat) (h_t_chosen : Nat) (h_t_tape : Nat) (h_t_toldPowers : Nat) (h_t_powerPlaces : Nat) (h_t_toldTree : Nat) (h_t_splitPlaces : Nat) (h_t_layers : Nat) (h_t_paper : Nat) (h_t_held : Nat) (h_t_numbers : Nat) (h_t_sizes : Nat) (h_t_heldLeaves : Nat) (h_t_items : Nat) (h_t_kept : Nat) (t_genus : Int32) (t_marks : Int32) (t_leaves : Int32) (t_splits : Int32) (t_done : Int32) (t_undone : Int32) (t_metMany : Int32) (t_treesSeen : Int32) (t_taped : Int32) (t_place : Int32) (t_isWrong : Int32) (t_toldGenus : Int32) (t_toldMarks : Int32) (t_isTree : Int32) (t_toldLeaves : Int32) (t_leavesPlace : Int32) (t_toldSplits : Int32) (t_isWhy : Int32) (t_papered : Int32) (t_isKept : Int32) (a_t_rows : Nat → Int32) (a_t_powers : Nat → Int32) (p0 : Int32) (p1 : Int32) (p2 : Int32) (p3 : Int32) (r0 : Int64) (w0 : Nat → Int32) (hF : F_X9_withMore t_genus t_marks a_t_rows a_t_powers p0 p1 p2 p3 = some (r0, w0)) : Met l yX9_withMore wsX9_withMore ({ frames := 20, cells := 0, slots := 0, locals := 580 }) (k_pre G (k_T cI cJ cD cH) [(h_t, .inr (8, [.int t_genus, .int t_marks, .ref h_t_powers, .int t_leaves, .int t_splits, .ref h_t_tree, .ref h_t_ahead, .ref h_t_behind, .ref h_t_before, .int t_done, .int t_undone, .ref h_t_rows, .ref h_t_met, .ref h_t_metSizes, .int t_metMany, .int t_treesSeen, .ref h_t_chosen, .ref h_t_tape, .int t_taped, .int t_place, .int t_isWrong, .int t_toldGenus, .int t_toldMarks, .ref h_t_toldPowers, .ref h_t_powerPlaces, .int t_isTree, .int t_toldLeaves, .int t_leavesPlace, .int t_toldSplits, .ref h_t_toldTree, .ref h_t_splitPlaces, .ref h_t_layers, .int t_isWhy, .ref h_t_paper, .int t_papered, .ref h_t_held, .ref h_t_numbers, .ref h_t_sizes, .ref h_t_heldLeaves, .ref h_t_items, .ref h_t_kept, .int t_isKept])), (h_t_rows, .inl (cI, 480, .inl a_t_rows)), (h_t_powers, .inl (cI, 8, .inl a_t_powers))] sz [.ref h_t, .int p0, .int p1, .int p2, .int p3]) (va_Ql (fun r (_ : Unit) => r = r0 ∧ True) (fun _ t => va_P G vwCl [(h_t, .inr (8, [.int t_genus, .int t_marks, .ref h_t_powers, .int t_leaves, .int t_splits, .ref h_t_tree, .ref h_t_ahead, .ref h_t_behind, .ref h_t_before, .int t_done, .int t_undone, .ref h_t_rows, .ref h_t_met, .ref h_t_metSizes, .int t_metMany, .int t_treesSeen, .ref h_t_chosen, .ref h_t_tape, .int t_taped, .int t_place, .int t_isWrong, .int t_toldGenus, .int t_toldMarks, .ref h_t_toldPowers, .ref h_t_powerPlaces, .int t_isTree, .int t_toldLeaves, .int t_leavesPlace, .int t_toldSplits, .ref h_t_toldTree, .ref h_t_splitPlaces, .ref h_t_layers, .int t_isWhy, .ref h_t_paper, .int t_papered, .ref h_t_held, .ref h_t_numbers, .ref h_t_sizes, .ref h_t_heldLeaves, .ref h_t_items, .ref h_t_kept, .int t_isKept])), (h_t_rows, .inl (cI, 480, .inl w0)), (h_t_powers, .inl (cI, 8, .inl a_t_powers))] t.heap) (va_A [(h_t, .inr (8, [.int t_genus, .int t_marks, .ref h_t_powers, .int t_leaves, .int t_splits, .ref h_t_tree, .ref h_t_ahead, .ref h_t_behind, .ref h_t_before, .int t_done, .int t_undone, .ref h_t_rows, .ref h_t_met, .ref h_t_metSizes, .int t_metMany, .int t_treesSeen, .ref h_t_chosen, .ref h_t_tape, .int t_taped, .int t_place, .int t_isWrong, .int t_toldGenus, .int t_toldMarks, .ref h_t_toldPowers, .ref h_t_powerPlaces, .int t_isTree, .int t_toldLeaves, .int t_leavesPlace, .int t_toldSplits, .ref h_t_toldTree, .ref h_t_splitPlaces, .ref h_t_layers, .int t_isWhy, .ref h_t_paper, .int t_papered, .ref h_t_held, .ref h_t_numbers, .ref h_t_sizes, .ref h_t_heldLeaves, .ref h_t_items, .ref h_t_kept, .int t_isKept])), (h_t_rows, .inl (cI, 480, .inl a_t_rows)), (h_t_powers, .inl (cI, 8, .inl a_t_powers))] sz)) 0 0 (va_A [(h_t, .inr (8, [.int t_genus, .int t_marks, .ref h_t_powers, .int t_leaves, .int t_splits, .ref h_t_tree, .ref h_t_ahead, .ref h_t_behind, .ref h_t_before, .int t_done, .int t_undone, .ref h_t_rows, .ref h_t_met, .ref h_t_metSizes, .int t_metMany, .int t_treesSeen, .ref h_t_chosen, .ref h_t_tape, .int t_taped, .int t_place, .int t_isWrong, .int t_toldGenus, .int t_toldMarks, .ref h_t_toldPowers, .ref h_t_powerPlaces, .int t_isTree, .int t_toldLeaves, .int t_leavesPlace, .int t_toldSplits, .ref h_t_toldTree, .ref h_t_splitPlaces, .ref h_t_layers, .int t_isWhy, .ref h_t_paper, .int t_papered, .ref h_t_held, .ref h_t_numbers, .ref h_t_sizes, .ref h_t_heldLeaves, .ref h_t_items, .ref h_t_kept, .int t_isKept])), (h_t_rows, .inl (cI, 480, .inl a_t_rows)), (h_t_powers, .inl (cI, 8, .inl a_t_powers))] sz) := by
  refine Met.ofW (cc := cX9_withMore) (maxL := 6) (ret := (some .long)) (by decide) rfl ?_
  intro p e s m args below meth c s₁ B hml hv
  obtain ⟨rfl, hsz, hP, hK, hD0⟩ := hv
  have hx := B.exec
  have hb := B.bytes
  have hr := B.returns
  have hts := atoms_spec (ws := wsX9_withMore) B.pre
  have hta : ∀ w ∈ wA, w.before ([.ref h_t, .int p0, .int p1, .int p2, .int p3] : List Value).toArray s = true := hta_of hts
  have hown : s.vm.findClass RX9 = some m.cls := findClass_of_methodNamed B.named
  have hlocks := B.notSynchronized
  subst hsz
  have hD := hD0.self (sz := s.heap.size)
  generalize hAe : va_A [(h_t, .inr (8, [.int t_genus, .int t_marks, .ref h_t_powers, .int t_leaves, .int t_splits, .ref h_t_tree, .ref h_t_ahead, .ref h_t_behind, .ref h_t_before, .int t_done, .int t_undone, .ref h_t_rows, .ref h_t_met, .ref h_t_metSizes, .int t_metMany, .int t_treesSeen, .ref h_t_chosen, .ref h_t_tape, .int t_taped, .int t_place, .int t_isWrong, .int t_toldGenus, .int t_toldMarks, .ref h_t_toldPowers, .ref h_t_powerPlaces, .int t_isTree, .int t_toldLeaves, .int t_leavesPlace, .int t_toldSplits, .ref h_t_toldTree, .ref h_t_splitPlaces, .ref h_t_layers, .int t_isWhy, .ref h_t_paper, .int t_papered, .ref h_t_held, .ref h_t_numbers, .ref h_t_sizes, .ref h_t_heldLeaves, .ref h_t_items, .ref h_t_kept, .int t_isKept])), (h_t_rows, .inl (cI, 480, .inl a_t_rows)), (h_t_powers, .inl (cI, 8, .inl a_t_powers))] s.heap.size = A at hD ⊢
  have hA : ∀ q : Nat, s.heap.size ≤ q → A q := fun q h => by rw [← hAe]; exact Or.inr h
  have hS : va_S A s.heap s.heap [] := va_S.rf
  have hl := lv_entry ([.ref h_t, .int p0, .int p1, .int p2, .int p3]) (n := 6) (Nat.le_of_ble_eq_true rfl)
  rw [lg_entry_eq]
  generalize (lg_sl ([.ref h_t, .int p0, .int p1, .int p2, .int p3]) ++ List.replicate (6 - (lg_sl ([.ref h_t, .int p0, .int p1, .int p2, .int p3])).length) Slot.unset).toArray = ls at hl ⊢
  have hl : lv_has ls 6 [(0, .ref h_t), (1, .int p0), (2, .int p1), (3, .int p2), (4, .int p3)] := hl
  have hinX9 : ∀ w ∈ wsX90, w ∈ wsX9_withMore := hin_of in_X9
  have h := hF
  unfold F_X9_withMore at h
  refine lv_iconst (v := (0 : Int32)) hx hb dX9_withMore_0 (by decide) ?_
  refine lv_istore (lv' := [(5, .int (0 : Int32)), (0, .ref h_t), (1, .int p0), (2, .int p1), (3, .int p2), (4, .int p3)]) hx hb dX9_withMore_1 hl (by decide) rfl (fun ls hl => ?_)
  have hL3 : ∀ (n3 : Nat) (vL3_0 : Nat → Int32) (vL3_1 : Int32) (H : Heap) (locs : List Loc) (ls : Array Slot), va_P G vwCl [(h_t, .inr (8, [.int t_genus, .int t_marks, .ref h_t_powers, .int t_leaves, .int t_splits, .ref h_t_tree, .ref h_t_ahead, .ref h_t_behind, .ref h_t_before, .int t_done, .int t_undone, .ref h_t_rows, .ref h_t_met, .ref h_t_metSizes, .int t_metMany, .int t_treesSeen, .ref h_t_chosen, .ref h_t_tape, .int t_taped, .int t_place, .int t_isWrong, .int t_toldGenus, .int t_toldMarks, .ref h_t_toldPowers, .ref h_t_powerPlaces, .int t_isTree, .int t_toldLeaves, .int t_leavesPlace, .int t_toldSplits, .ref h_t_toldTree, .ref h_t_splitPlaces, .ref h_t_layers, .int t_isWhy, .ref h_t_paper, .int t_papered, .ref h_t_held, .ref h_t_numbers, .ref h_t_sizes, .ref h_t_heldLeaves, .ref h_t_items, .ref h_t_kept, .int t_isKept])), (h_t_rows, .inl (cI, 480, .inl vL3_0)), (h_t_powers, .inl (cI, 8, .inl a_t_powers))] H → va_D A [(h_t, .inr (8, [.int t_genus, .int t_marks, .ref h_t_powers, .int t_leaves, .int t_splits, .ref h_t_tree, .ref h_t_ahead, .ref h_t_behind, .ref h_t_before, .int t_done, .int t_undone, .ref h_t_rows, .ref h_t_met, .ref h_t_metSizes, .int t_metMany, .int t_treesSeen, .ref h_t_chosen, .ref h_t_tape, .int t_taped, .int t_place, .int t_isWrong, .int t_toldGenus, .int t_toldMarks, .ref h_t_toldPowers, .ref h_t_powerPlaces, .int t_isTree, .int t_toldLeaves, .int t_leavesPlace, .int t_toldSplits, .ref h_t_toldTree, .ref h_t_splitPlaces, .ref h_t_layers, .int t_isWhy, .ref h_t_paper, .int t_papered, .ref h_t_held, .ref h_t_numbers, .ref h_t_sizes, .ref h_t_heldLeaves, .ref h_t_items, .ref h_t_kept, .int t_isKept])), (h_t_rows, .inl (cI, 480, .inl vL3_0)), (h_t_powers, .inl (cI, 8, .inl a_t_powers))] → va_S A s.heap H locs → lv_has ls 6 [(0, .ref h_t), (1, .int p0), (2, .int p1), (3, .int p2), (4, .int p3), (5, .int vL3_1)] → wq2 (B_X9_withMore_3 t_marks a_t_powers (K_X9_withMore_3_32 t_genus t_marks p0 p1 p2 p3)) n3 vL3_0 vL3_1 = some (r0, w0) → W p l e (headSpec wsX9_withMore ({ frames := 20, cells := 0, slots := 0, locals := 580 })).room s m ([.ref h_t, .int p0, .int p1, .int p2, .int p3] : List Value).toArray below meth c H locs 0 0 (MQ below (va_Ql (fun r (_ : Unit) => r = r0 ∧ True) (fun _ t => va_P G vwCl [(h_t, .inr (8, [.int t_genus, .int t_marks, .ref h_t_powers, .int t_leaves, .int t_splits, .ref h_t_tree, .ref h_t_ahead, .ref h_t_behind, .ref h_t_before, .int t_done, .int t_undone, .ref h_t_rows, .ref h_t_met, .ref h_t_metSizes, .int t_metMany, .int t_treesSeen, .ref h_t_chosen, .ref h_t_tape, .int t_taped, .int t_place, .int t_isWrong, .int t_toldGenus, .int t_toldMarks, .ref h_t_toldPowers, .ref h_t_powerPlaces, .int t_isTree, .int t_toldLeaves, .int t_leavesPlace, .int t_toldSplits, .ref h_t_toldTree, .ref h_t_splitPlaces, .ref h_t_layers, .int t_isWhy, .ref h_t_paper, .int t_papered, .ref h_t_held, .ref h_t_numbers, .ref h_t_sizes, .ref h_t_heldLeaves, .ref h_t_items, .ref h_t_kept, .int t_isKept])), (h_t_rows, .inl (cI, 480, .inl w0)), (h_t_powers, .inl (cI, 8, .inl a_t_powers))] t.heap) A) ([.ref h_t, .int p0, .int p1, .int p2, .int p3] : List Value).toArray s 0 0 A) (F0 m 3 ls []) := by
    intro n3
    induction n3 with
    | zero => intro vL3_0 vL3_1 H locs ls hP hD hS hl h; exact wq2_0 h
    | succ n3 ih3 =>
      intro vL3_0 vL3_1 H locs ls hP hD hS hl h
      have h := wq2_s h
      unfold B_X9_withMore_3 at h
      refine lv_iload hx hb dX9_withMore_3 (lv_at hl 5 rfl) ?_
      refine lv_aload_n hx hb dX9_withMore_5 rfl (lv_at hl 0 rfl) ?_
      refine va_get (D := G) (ci := 8) (v := .int t_marks) (C := RX9) (T := TX9) (N := 42) hx hb hts hinX9 hown hK hP 0 rfl rfl 1 (by decide) (hta _ mw_641) (fun _ h9 => h9) rfl dX9_withMore_6 ?_
      refine lv_icmp_ge (tgt := 32) hx hb dX9_withMore_9 (by decide) (fun c8 => ?_) (fun c8 => ?_)
      · have h := it_p h c8
        exact tK_X9_withMore_3_32 hx hb hr hml hts hown hlocks hK hA vL3_0 _ _ _ hP hD hS (lv_sub hl [0, 1, 2, 3, 4] rfl) h
      have h := it_n h c8
      refine lv_aload_n hx hb dX9_withMore_12 rfl (lv_at hl 0 rfl) ?_
      refine va_get (D := G) (ci := 8) (v := .ref h_t_rows) (C := RX9) (T := TX9) (N := 42) hx hb hts hinX9 hown hK hP 0 rfl rfl 11 (by decide) (hta _ mw_614) (fun _ h9 => h9) rfl dX9_withMore_13 ?_
      refine lv_iload hx hb dX9_withMore_16 (lv_at hl 5 rfl) ?_
      refine lv_aload_n hx hb dX9_withMore_18 rfl (lv_at hl 0 rfl) ?_
      refine va_get (D := G) (ci := 8) (v := .ref h_t_powers) (C := RX9) (T := TX9) (N := 42) hx hb hts hinX9 hown hK hP 0 rfl rfl 2 (by decide) (hta _ mw_608) (fun _ h9 => h9) rfl dX9_withMore_19 ?_
      refine lv_iload hx hb dX9_withMore_22 (lv_at hl 5 rfl) ?_
      obtain ⟨hn9, h⟩ := ck_e h
      refine va_iald hx hb hK hP 2 0 rfl rfl hn9 dX9_withMore_24 ?_
      obtain ⟨hn10, h⟩ := ck_e h
      refine va_iast hx hb hK hP hD hS 1 0 rfl rfl hn10 dX9_withMore_25 (fun H locs hP hD hS => ?_)
      have hP : va_P G vwCl [(h_t, .inr (8, [.int t_genus, .int t_marks, .ref h_t_powers, .int t_leaves, .int t_splits, .ref h_t_tree, .ref h_t_ahead, .ref h_t_behind, .ref h_t_before, .int t_done, .int t_undone, .ref h_t_rows, .ref h_t_met, .ref h_t_metSizes, .int t_metMany, .int t_treesSeen, .ref h_t_chosen, .ref h_t_tape, .int t_taped, .int t_place, .int t_isWrong, .int t_toldGenus, .int t_toldMarks, .ref h_t_toldPowers, .ref h_t_powerPlaces, .int t_isTree, .int t_toldLeaves, .int t_leavesPlace, .int t_toldSplits, .ref h_t_toldTree, .ref h_t_splitPlaces, .ref h_t_layers, .int t_isWhy, .ref h_t_paper, .int t_papered, .ref h_t_held, .ref h_t_numbers, .ref h_t_sizes, .ref h_t_heldLeaves, .ref h_t_items, .ref h_t_kept, .int t_isKept])), (h_t_rows, .inl (cI, 480, .inl (upd vL3_0 vL3_1.toNatClampNeg (a_t_powers vL3_1.toNatClampNeg)))), (h_t_powers, .inl (cI, 8, .inl a_t_powers))] H := hP
      have hD : va_D A [(h_t, .inr (8, [.int t_genus, .int t_marks, .ref h_t_powers, .int t_leaves, .int t_splits, .ref h_t_tree, .ref h_t_ahead, .ref h_t_behind, .ref h_t_before, .int t_done, .int t_undone, .ref h_t_rows, .ref h_t_met, .ref h_t_metSizes, .int t_metMany, .int t_treesSeen, .ref h_t_chosen, .ref h_t_tape, .int t_taped, .int t_place, .int t_isWrong, .int t_toldGenus, .int t_toldMarks, .ref h_t_toldPowers, .ref h_t_powerPlaces, .int t_isTree, .int t_toldLeaves, .int t_leavesPlace, .int t_toldSplits, .ref h_t_toldTree, .ref h_t_splitPlaces, .ref h_t_layers, .int t_isWhy, .ref h_t_paper, .int t_papered, .ref h_t_held, .ref h_t_numbers, .ref h_t_sizes, .ref h_t_heldLeaves, .ref h_t_items, .ref h_t_kept, .int t_isKept])), (h_t_rows, .inl (cI, 480, .inl (upd vL3_0 vL3_1.toNatClampNeg (a_t_powers vL3_1.toNatClampNeg)))), (h_t_powers, .inl (cI, 8, .inl a_t_powers))] := hD
      refine lv_iinc (v := (vL3_1 + (1 : Int32))) (lv' := [(5, .int (vL3_1 + (1 : Int32))), (0, .ref h_t), (1, .int p0), (2, .int p1), (3, .int p2), (4, .int p3)]) hx hb dX9_withMore_26 hl (k := 5) rfl (by first | rfl | decide) (by decide) rfl (fun ls hl => ?_)
      refine lv_goto (tgt := 3) hx hb dX9_withMore_29 (by decide) ?_
      exact ih3 (upd vL3_0 vL3_1.toNatClampNeg (a_t_powers vL3_1.toNatClampNeg)) (vL3_1 + (1 : Int32)) _ _ _ hP hD hS (lv_sub hl [1, 2, 3, 4, 5, 0] rfl) h
  exact hL3 FU a_t_rows (0 : Int32) _ _ _ hP hD hS (lv_sub hl [1, 2, 3, 4, 5, 0] rfl) h

/-! X9_kappaOne -/
set_option maxHeartbeats 4000000 in
set_option maxRecDepth 100000 in
theorem c_X9_kappaOne (l : Launch) (G : va_G) (cI cJ cD cH : ClassId) (sz : Nat) (h_t : Nat) (h_t_rows : Nat) (h_t_powers : Nat) (h_t_tree : Nat) (h_t_ahead : Nat) (h_t_behind : Nat) (h_t_before : Nat) (h_t_met : Nat) (h_t_metSizes : Nat) (h_t_chosen : Nat) (h_t_tape : Nat) (h_t_toldPowers : Nat) (h_t_powerPlaces : Nat) (h_t_toldTree : Nat) (h_t_splitPlaces : Nat) (h_t_layers : Nat) (h_t_paper : Nat) (h_t_held : Nat) (h_t_numbers : Nat) (h_t_sizes : Nat) (h_t_heldLeaves : Nat) (h_t_items : Nat) (h_t_kept : Nat) (t_genus : Int32) (t_marks : Int32) (t_leaves : Int32) (t_splits : Int32) (t_done : Int32) (t_undone : Int32) (t_metMany : Int32) (t_treesSeen : Int32) (t_taped : Int32) (t_place : Int32) (t_isWrong : Int32) (t_toldGenus : Int32) (t_toldMarks : Int32) (t_isTree : Int32) (t_toldLeaves : Int32) (t_leavesPlace : Int32) (t_toldSplits : Int32) (t_isWhy : Int32) (t_papered : Int32) (t_isKept : Int32) (a_t_rows : Nat → Int32) (a_t_powers : Nat → Int32) (p0 : Int32) (r0 : Int64) (w0 : Nat → Int32) (hF : F_X9_kappaOne t_genus t_marks a_t_rows a_t_powers p0 = some (r0, w0)) : Met l yX9_kappaOne wsX9_kappaOne ({ frames := 21, cells := 0, slots := 0, locals := 605 }) (k_pre G (k_T cI cJ cD cH) [(h_t, .inr (8, [.int t_genus, .int t_marks, .ref h_t_powers, .int t_leaves, .int t_splits, .ref h_t_tree, .ref h_t_ahead, .ref h_t_behind, .ref h_t_before, .int t_done, .int t_undone, .ref h_t_rows, .ref h_t_met, .ref h_t_metSizes, .int t_metMany, .int t_treesSeen, .ref h_t_chosen, .ref h_t_tape, .int t_taped, .int t_place, .int t_isWrong, .int t_toldGenus, .int t_toldMarks, .ref h_t_toldPowers, .ref h_t_powerPlaces, .int t_isTree, .int t_toldLeaves, .int t_leavesPlace, .int t_toldSplits, .ref h_t_toldTree, .ref h_t_splitPlaces, .ref h_t_layers, .int t_isWhy, .ref h_t_paper, .int t_papered, .ref h_t_held, .ref h_t_numbers, .ref h_t_sizes, .ref h_t_heldLeaves, .ref h_t_items, .ref h_t_kept, .int t_isKept])), (h_t_rows, .inl (cI, 480, .inl a_t_rows)), (h_t_powers, .inl (cI, 8, .inl a_t_powers))] sz [.ref h_t, .int p0]) (va_Ql (fun r (_ : Unit) => r = r0 ∧ True) (fun _ t => va_P G vwCl [(h_t, .inr (8, [.int t_genus, .int t_marks, .ref h_t_powers, .int t_leaves, .int t_splits, .ref h_t_tree, .ref h_t_ahead, .ref h_t_behind, .ref h_t_before, .int t_done, .int t_undone, .ref h_t_rows, .ref h_t_met, .ref h_t_metSizes, .int t_metMany, .int t_treesSeen, .ref h_t_chosen, .ref h_t_tape, .int t_taped, .int t_place, .int t_isWrong, .int t_toldGenus, .int t_toldMarks, .ref h_t_toldPowers, .ref h_t_powerPlaces, .int t_isTree, .int t_toldLeaves, .int t_leavesPlace, .int t_toldSplits, .ref h_t_toldTree, .ref h_t_splitPlaces, .ref h_t_layers, .int t_isWhy, .ref h_t_paper, .int t_papered, .ref h_t_held, .ref h_t_numbers, .ref h_t_sizes, .ref h_t_heldLeaves, .ref h_t_items, .ref h_t_kept, .int t_isKept])), (h_t_rows, .inl (cI, 480, .inl w0)), (h_t_powers, .inl (cI, 8, .inl a_t_powers))] t.heap) (va_A [(h_t, .inr (8, [.int t_genus, .int t_marks, .ref h_t_powers, .int t_leaves, .int t_splits, .ref h_t_tree, .ref h_t_ahead, .ref h_t_behind, .ref h_t_before, .int t_done, .int t_undone, .ref h_t_rows, .ref h_t_met, .ref h_t_metSizes, .int t_metMany, .int t_treesSeen, .ref h_t_chosen, .ref h_t_tape, .int t_taped, .int t_place, .int t_isWrong, .int t_toldGenus, .int t_toldMarks, .ref h_t_toldPowers, .ref h_t_powerPlaces, .int t_isTree, .int t_toldLeaves, .int t_leavesPlace, .int t_toldSplits, .ref h_t_toldTree, .ref h_t_splitPlaces, .ref h_t_layers, .int t_isWhy, .ref h_t_paper, .int t_papered, .ref h_t_held, .ref h_t_numbers, .ref h_t_sizes, .ref h_t_heldLeaves, .ref h_t_items, .ref h_t_kept, .int t_isKept])), (h_t_rows, .inl (cI, 480, .inl a_t_rows)), (h_t_powers, .inl (cI, 8, .inl a_t_powers))] sz)) 0 0 (va_A [(h_t, .inr (8, [.int t_genus, .int t_marks, .ref h_t_powers, .int t_leaves, .int t_splits, .ref h_t_tree, .ref h_t_ahead, .ref h_t_behind, .ref h_t_before, .int t_done, .int t_undone, .ref h_t_rows, .ref h_t_met, .ref h_t_metSizes, .int t_metMany, .int t_treesSeen, .ref h_t_chosen, .ref h_t_tape, .int t_taped, .int t_place, .int t_isWrong, .int t_toldGenus, .int t_toldMarks, .ref h_t_toldPowers, .ref h_t_powerPlaces, .int t_isTree, .int t_toldLeaves, .int t_leavesPlace, .int t_toldSplits, .ref h_t_toldTree, .ref h_t_splitPlaces, .ref h_t_layers, .int t_isWhy, .ref h_t_paper, .int t_papered, .ref h_t_held, .ref h_t_numbers, .ref h_t_sizes, .ref h_t_heldLeaves, .ref h_t_items, .ref h_t_kept, .int t_isKept])), (h_t_rows, .inl (cI, 480, .inl a_t_rows)), (h_t_powers, .inl (cI, 8, .inl a_t_powers))] sz) := by
  refine Met.ofW (cc := cX9_kappaOne) (maxL := 2) (ret := (some .long)) (by decide) rfl ?_
  intro p e s m args below meth c s₁ B hml hv
  obtain ⟨rfl, hsz, hP, hK, hD0⟩ := hv
  have hx := B.exec
  have hb := B.bytes
  have hr := B.returns
  have hts := atoms_spec (ws := wsX9_kappaOne) B.pre
  have hta : ∀ w ∈ wA, w.before ([.ref h_t, .int p0] : List Value).toArray s = true := hta_of hts
  have hown : s.vm.findClass RX9 = some m.cls := findClass_of_methodNamed B.named
  have hlocks := B.notSynchronized
  subst hsz
  have hD := hD0.self (sz := s.heap.size)
  generalize hAe : va_A [(h_t, .inr (8, [.int t_genus, .int t_marks, .ref h_t_powers, .int t_leaves, .int t_splits, .ref h_t_tree, .ref h_t_ahead, .ref h_t_behind, .ref h_t_before, .int t_done, .int t_undone, .ref h_t_rows, .ref h_t_met, .ref h_t_metSizes, .int t_metMany, .int t_treesSeen, .ref h_t_chosen, .ref h_t_tape, .int t_taped, .int t_place, .int t_isWrong, .int t_toldGenus, .int t_toldMarks, .ref h_t_toldPowers, .ref h_t_powerPlaces, .int t_isTree, .int t_toldLeaves, .int t_leavesPlace, .int t_toldSplits, .ref h_t_toldTree, .ref h_t_splitPlaces, .ref h_t_layers, .int t_isWhy, .ref h_t_paper, .int t_papered, .ref h_t_held, .ref h_t_numbers, .ref h_t_sizes, .ref h_t_heldLeaves, .ref h_t_items, .ref h_t_kept, .int t_isKept])), (h_t_rows, .inl (cI, 480, .inl a_t_rows)), (h_t_powers, .inl (cI, 8, .inl a_t_powers))] s.heap.size = A at hD ⊢
  have hA : ∀ q : Nat, s.heap.size ≤ q → A q := fun q h => by rw [← hAe]; exact Or.inr h
  have hS : va_S A s.heap s.heap [] := va_S.rf
  have hl := lv_entry ([.ref h_t, .int p0]) (n := 2) (Nat.le_of_ble_eq_true rfl)
  rw [lg_entry_eq]
  generalize (lg_sl ([.ref h_t, .int p0]) ++ List.replicate (2 - (lg_sl ([.ref h_t, .int p0])).length) Slot.unset).toArray = ls at hl ⊢
  have hl : lv_has ls 2 [(0, .ref h_t), (1, .int p0)] := hl
  have h := hF
  unfold F_X9_kappaOne at h
  refine lv_aload_n hx hb dX9_kappaOne_0 rfl (lv_at hl 0 rfl) ?_
  refine lv_iload_n hx hb dX9_kappaOne_1 rfl (lv_at hl 1 rfl) ?_
  refine lv_iconst (v := (0 : Int32)) hx hb dX9_kappaOne_2 (by decide) ?_
  refine lv_iconst (v := (0 : Int32)) hx hb dX9_kappaOne_3 (by decide) ?_
  refine lv_iconst (v := (1 : Int32)) hx hb dX9_kappaOne_4 (by decide) ?_
  obtain ⟨x1, hx1, h⟩ := bd_e h
  try dsimp only at h
  refine k_VlM (n := 4) (As := [.int p0, .int (0 : Int32), .int (0 : Int32), .int (1 : Int32)]) (rest := []) hx hb hml hown hts (c_X9_withMore l G cI cJ cD cH s.heap.size h_t h_t_rows h_t_powers h_t_tree h_t_ahead h_t_behind h_t_before h_t_met h_t_metSizes h_t_chosen h_t_tape h_t_toldPowers h_t_powerPlaces h_t_toldTree h_t_splitPlaces h_t_layers h_t_paper h_t_held h_t_numbers h_t_sizes h_t_heldLeaves h_t_items h_t_kept t_genus t_marks t_leaves t_splits t_done t_undone t_metMany t_treesSeen t_taped t_place t_isWrong t_toldGenus t_toldMarks t_isTree t_toldLeaves t_leavesPlace t_toldSplits t_isWhy t_papered t_isKept a_t_rows a_t_powers p0 (0 : Int32) (0 : Int32) (1 : Int32) (x1.1) (x1.2) hx1) gX9_kappaOne_X9_withMore rfl rfl rfl (by decide +kernel) ⟨by first | exact Nat.le_of_ble_eq_true rfl | (simp only [headSpec]; omega), by first | exact Nat.le_of_ble_eq_true rfl | (simp only [headSpec]; omega)⟩ hK hP hD hS hA [0, 1, 2] (by decide) rfl rfl (ci := 8) rfl rfl rfl rfl rfl hl.1 (Nat.le_of_ble_eq_true rfl) dX9_kappaOne_5 ⟨Nat.zero_le _, Nat.zero_le _⟩ [(h_t, .inr (8, [.int t_genus, .int t_marks, .ref h_t_powers, .int t_leaves, .int t_splits, .ref h_t_tree, .ref h_t_ahead, .ref h_t_behind, .ref h_t_before, .int t_done, .int t_undone, .ref h_t_rows, .ref h_t_met, .ref h_t_metSizes, .int t_metMany, .int t_treesSeen, .ref h_t_chosen, .ref h_t_tape, .int t_taped, .int t_place, .int t_isWrong, .int t_toldGenus, .int t_toldMarks, .ref h_t_toldPowers, .ref h_t_powerPlaces, .int t_isTree, .int t_toldLeaves, .int t_leavesPlace, .int t_toldSplits, .ref h_t_toldTree, .ref h_t_splitPlaces, .ref h_t_layers, .int t_isWhy, .ref h_t_paper, .int t_papered, .ref h_t_held, .ref h_t_numbers, .ref h_t_sizes, .ref h_t_heldLeaves, .ref h_t_items, .ref h_t_kept, .int t_isKept])), (h_t_rows, .inl (cI, 480, .inl (x1.2))), (h_t_powers, .inl (cI, 8, .inl a_t_powers))] [1, 2, 3] 3 (by decide +kernel) rfl rfl rfl (fun hp1 H locs hP hD hS => ?_)
  have h9 := Option.some.inj h
  have e9 : (x1.1) = r0 := congrArg (fun z9 => z9.1) h9
  rw [← e9]
  have e9 : (x1.2) = w0 := congrArg (fun z9 => z9.2) h9
  rw [← e9]
  exact k_lret hx hb hr hlocks hP hS rfl dX9_kappaOne_8

/-! X9_kappaTwo -/
set_option maxHeartbeats 4000000 in
set_option maxRecDepth 100000 in
theorem c_X9_kappaTwo (l : Launch) (G : va_G) (cI cJ cD cH : ClassId) (sz : Nat) (h_t : Nat) (h_t_rows : Nat) (h_t_powers : Nat) (h_t_tree : Nat) (h_t_ahead : Nat) (h_t_behind : Nat) (h_t_before : Nat) (h_t_met : Nat) (h_t_metSizes : Nat) (h_t_chosen : Nat) (h_t_tape : Nat) (h_t_toldPowers : Nat) (h_t_powerPlaces : Nat) (h_t_toldTree : Nat) (h_t_splitPlaces : Nat) (h_t_layers : Nat) (h_t_paper : Nat) (h_t_held : Nat) (h_t_numbers : Nat) (h_t_sizes : Nat) (h_t_heldLeaves : Nat) (h_t_items : Nat) (h_t_kept : Nat) (t_genus : Int32) (t_marks : Int32) (t_leaves : Int32) (t_splits : Int32) (t_done : Int32) (t_undone : Int32) (t_metMany : Int32) (t_treesSeen : Int32) (t_taped : Int32) (t_place : Int32) (t_isWrong : Int32) (t_toldGenus : Int32) (t_toldMarks : Int32) (t_isTree : Int32) (t_toldLeaves : Int32) (t_leavesPlace : Int32) (t_toldSplits : Int32) (t_isWhy : Int32) (t_papered : Int32) (t_isKept : Int32) (a_t_rows : Nat → Int32) (a_t_powers : Nat → Int32) (p0 : Int32) (p1 : Int32) (r0 : Int64) (w0 : Nat → Int32) (hF : F_X9_kappaTwo t_genus t_marks a_t_rows a_t_powers p0 p1 = some (r0, w0)) : Met l yX9_kappaTwo wsX9_kappaTwo ({ frames := 22, cells := 0, slots := 0, locals := 626 }) (k_pre G (k_T cI cJ cD cH) [(h_t, .inr (8, [.int t_genus, .int t_marks, .ref h_t_powers, .int t_leaves, .int t_splits, .ref h_t_tree, .ref h_t_ahead, .ref h_t_behind, .ref h_t_before, .int t_done, .int t_undone, .ref h_t_rows, .ref h_t_met, .ref h_t_metSizes, .int t_metMany, .int t_treesSeen, .ref h_t_chosen, .ref h_t_tape, .int t_taped, .int t_place, .int t_isWrong, .int t_toldGenus, .int t_toldMarks, .ref h_t_toldPowers, .ref h_t_powerPlaces, .int t_isTree, .int t_toldLeaves, .int t_leavesPlace, .int t_toldSplits, .ref h_t_toldTree, .ref h_t_splitPlaces, .ref h_t_layers, .int t_isWhy, .ref h_t_paper, .int t_papered, .ref h_t_held, .ref h_t_numbers, .ref h_t_sizes, .ref h_t_heldLeaves, .ref h_t_items, .ref h_t_kept, .int t_isKept])), (h_t_rows, .inl (cI, 480, .inl a_t_rows)), (h_t_powers, .inl (cI, 8, .inl a_t_powers))] sz [.ref h_t, .int p0, .int p1]) (va_Ql (fun r (_ : Unit) => r = r0 ∧ True) (fun _ t => va_P G vwCl [(h_t, .inr (8, [.int t_genus, .int t_marks, .ref h_t_powers, .int t_leaves, .int t_splits, .ref h_t_tree, .ref h_t_ahead, .ref h_t_behind, .ref h_t_before, .int t_done, .int t_undone, .ref h_t_rows, .ref h_t_met, .ref h_t_metSizes, .int t_metMany, .int t_treesSeen, .ref h_t_chosen, .ref h_t_tape, .int t_taped, .int t_place, .int t_isWrong, .int t_toldGenus, .int t_toldMarks, .ref h_t_toldPowers, .ref h_t_powerPlaces, .int t_isTree, .int t_toldLeaves, .int t_leavesPlace, .int t_toldSplits, .ref h_t_toldTree, .ref h_t_splitPlaces, .ref h_t_layers, .int t_isWhy, .ref h_t_paper, .int t_papered, .ref h_t_held, .ref h_t_numbers, .ref h_t_sizes, .ref h_t_heldLeaves, .ref h_t_items, .ref h_t_kept, .int t_isKept])), (h_t_rows, .inl (cI, 480, .inl w0)), (h_t_powers, .inl (cI, 8, .inl a_t_powers))] t.heap) (va_A [(h_t, .inr (8, [.int t_genus, .int t_marks, .ref h_t_powers, .int t_leaves, .int t_splits, .ref h_t_tree, .ref h_t_ahead, .ref h_t_behind, .ref h_t_before, .int t_done, .int t_undone, .ref h_t_rows, .ref h_t_met, .ref h_t_metSizes, .int t_metMany, .int t_treesSeen, .ref h_t_chosen, .ref h_t_tape, .int t_taped, .int t_place, .int t_isWrong, .int t_toldGenus, .int t_toldMarks, .ref h_t_toldPowers, .ref h_t_powerPlaces, .int t_isTree, .int t_toldLeaves, .int t_leavesPlace, .int t_toldSplits, .ref h_t_toldTree, .ref h_t_splitPlaces, .ref h_t_layers, .int t_isWhy, .ref h_t_paper, .int t_papered, .ref h_t_held, .ref h_t_numbers, .ref h_t_sizes, .ref h_t_heldLeaves, .ref h_t_items, .ref h_t_kept, .int t_isKept])), (h_t_rows, .inl (cI, 480, .inl a_t_rows)), (h_t_powers, .inl (cI, 8, .inl a_t_powers))] sz)) 0 0 (va_A [(h_t, .inr (8, [.int t_genus, .int t_marks, .ref h_t_powers, .int t_leaves, .int t_splits, .ref h_t_tree, .ref h_t_ahead, .ref h_t_behind, .ref h_t_before, .int t_done, .int t_undone, .ref h_t_rows, .ref h_t_met, .ref h_t_metSizes, .int t_metMany, .int t_treesSeen, .ref h_t_chosen, .ref h_t_tape, .int t_taped, .int t_place, .int t_isWrong, .int t_toldGenus, .int t_toldMarks, .ref h_t_toldPowers, .ref h_t_powerPlaces, .int t_isTree, .int t_toldLeaves, .int t_leavesPlace, .int t_toldSplits, .ref h_t_toldTree, .ref h_t_splitPlaces, .ref h_t_layers, .int t_isWhy, .ref h_t_paper, .int t_papered, .ref h_t_held, .ref h_t_numbers, .ref h_t_sizes, .ref h_t_heldLeaves, .ref h_t_items, .ref h_t_kept, .int t_isKept])), (h_t_rows, .inl (cI, 480, .inl a_t_rows)), (h_t_powers, .inl (cI, 8, .inl a_t_powers))] sz) := by
  refine Met.ofW (cc := cX9_kappaTwo) (maxL := 3) (ret := (some .long)) (by decide) rfl ?_
  intro p e s m args below meth c s₁ B hml hv
  obtain ⟨rfl, hsz, hP, hK, hD0⟩ := hv
  have hx := B.exec
  have hb := B.bytes
  have hr := B.returns
  have hts := atoms_spec (ws := wsX9_kappaTwo) B.pre
  have hta : ∀ w ∈ wA, w.before ([.ref h_t, .int p0, .int p1] : List Value).toArray s = true := hta_of hts
  have hown : s.vm.findClass RX9 = some m.cls := findClass_of_methodNamed B.named
  have hlocks := B.notSynchronized
  subst hsz
  have hD := hD0.self (sz := s.heap.size)
  generalize hAe : va_A [(h_t, .inr (8, [.int t_genus, .int t_marks, .ref h_t_powers, .int t_leaves, .int t_splits, .ref h_t_tree, .ref h_t_ahead, .ref h_t_behind, .ref h_t_before, .int t_done, .int t_undone, .ref h_t_rows, .ref h_t_met, .ref h_t_metSizes, .int t_metMany, .int t_treesSeen, .ref h_t_chosen, .ref h_t_tape, .int t_taped, .int t_place, .int t_isWrong, .int t_toldGenus, .int t_toldMarks, .ref h_t_toldPowers, .ref h_t_powerPlaces, .int t_isTree, .int t_toldLeaves, .int t_leavesPlace, .int t_toldSplits, .ref h_t_toldTree, .ref h_t_splitPlaces, .ref h_t_layers, .int t_isWhy, .ref h_t_paper, .int t_papered, .ref h_t_held, .ref h_t_numbers, .ref h_t_sizes, .ref h_t_heldLeaves, .ref h_t_items, .ref h_t_kept, .int t_isKept])), (h_t_rows, .inl (cI, 480, .inl a_t_rows)), (h_t_powers, .inl (cI, 8, .inl a_t_powers))] s.heap.size = A at hD ⊢
  have hA : ∀ q : Nat, s.heap.size ≤ q → A q := fun q h => by rw [← hAe]; exact Or.inr h
  have hS : va_S A s.heap s.heap [] := va_S.rf
  have hl := lv_entry ([.ref h_t, .int p0, .int p1]) (n := 3) (Nat.le_of_ble_eq_true rfl)
  rw [lg_entry_eq]
  generalize (lg_sl ([.ref h_t, .int p0, .int p1]) ++ List.replicate (3 - (lg_sl ([.ref h_t, .int p0, .int p1])).length) Slot.unset).toArray = ls at hl ⊢
  have hl : lv_has ls 3 [(0, .ref h_t), (1, .int p0), (2, .int p1)] := hl
  have h := hF
  unfold F_X9_kappaTwo at h
  refine lv_aload_n hx hb dX9_kappaTwo_0 rfl (lv_at hl 0 rfl) ?_
  refine lv_iload_n hx hb dX9_kappaTwo_1 rfl (lv_at hl 1 rfl) ?_
  refine lv_iload_n hx hb dX9_kappaTwo_2 rfl (lv_at hl 2 rfl) ?_
  refine lv_iconst (v := (0 : Int32)) hx hb dX9_kappaTwo_3 (by decide) ?_
  refine lv_iconst (v := (2 : Int32)) hx hb dX9_kappaTwo_4 (by decide) ?_
  obtain ⟨x1, hx1, h⟩ := bd_e h
  try dsimp only at h
  refine k_VlM (n := 4) (As := [.int p0, .int p1, .int (0 : Int32), .int (2 : Int32)]) (rest := []) hx hb hml hown hts (c_X9_withMore l G cI cJ cD cH s.heap.size h_t h_t_rows h_t_powers h_t_tree h_t_ahead h_t_behind h_t_before h_t_met h_t_metSizes h_t_chosen h_t_tape h_t_toldPowers h_t_powerPlaces h_t_toldTree h_t_splitPlaces h_t_layers h_t_paper h_t_held h_t_numbers h_t_sizes h_t_heldLeaves h_t_items h_t_kept t_genus t_marks t_leaves t_splits t_done t_undone t_metMany t_treesSeen t_taped t_place t_isWrong t_toldGenus t_toldMarks t_isTree t_toldLeaves t_leavesPlace t_toldSplits t_isWhy t_papered t_isKept a_t_rows a_t_powers p0 p1 (0 : Int32) (2 : Int32) (x1.1) (x1.2) hx1) gX9_kappaTwo_X9_withMore rfl rfl rfl (by decide +kernel) ⟨by first | exact Nat.le_of_ble_eq_true rfl | (simp only [headSpec]; omega), by first | exact Nat.le_of_ble_eq_true rfl | (simp only [headSpec]; omega)⟩ hK hP hD hS hA [0, 1, 2] (by decide) rfl rfl (ci := 8) rfl rfl rfl rfl rfl hl.1 (Nat.le_of_ble_eq_true rfl) dX9_kappaTwo_5 ⟨Nat.zero_le _, Nat.zero_le _⟩ [(h_t, .inr (8, [.int t_genus, .int t_marks, .ref h_t_powers, .int t_leaves, .int t_splits, .ref h_t_tree, .ref h_t_ahead, .ref h_t_behind, .ref h_t_before, .int t_done, .int t_undone, .ref h_t_rows, .ref h_t_met, .ref h_t_metSizes, .int t_metMany, .int t_treesSeen, .ref h_t_chosen, .ref h_t_tape, .int t_taped, .int t_place, .int t_isWrong, .int t_toldGenus, .int t_toldMarks, .ref h_t_toldPowers, .ref h_t_powerPlaces, .int t_isTree, .int t_toldLeaves, .int t_leavesPlace, .int t_toldSplits, .ref h_t_toldTree, .ref h_t_splitPlaces, .ref h_t_layers, .int t_isWhy, .ref h_t_paper, .int t_papered, .ref h_t_held, .ref h_t_numbers, .ref h_t_sizes, .ref h_t_heldLeaves, .ref h_t_items, .ref h_t_kept, .int t_isKept])), (h_t_rows, .inl (cI, 480, .inl (x1.2))), (h_t_powers, .inl (cI, 8, .inl a_t_powers))] [1, 2, 3] 3 (by decide +kernel) rfl rfl rfl (fun hp1 H locs hP hD hS => ?_)
  refine lv_aload_n hx hb dX9_kappaTwo_8 rfl (lv_at hl 0 rfl) ?_
  refine lv_iload_n hx hb dX9_kappaTwo_9 rfl (lv_at hl 1 rfl) ?_
  refine lv_iload_n hx hb dX9_kappaTwo_10 rfl (lv_at hl 2 rfl) ?_
  refine lv_iadd hx hb dX9_kappaTwo_11 ?_
  obtain ⟨x2, hx2, h⟩ := bd_e h
  try dsimp only at h
  refine k_VlM (n := 1) (As := [.int (p0 + p1)]) (rest := [.long (x1.1)]) hx hb hml hown hts (c_X9_kappaOne l G cI cJ cD cH H.size h_t h_t_rows h_t_powers h_t_tree h_t_ahead h_t_behind h_t_before h_t_met h_t_metSizes h_t_chosen h_t_tape h_t_toldPowers h_t_powerPlaces h_t_toldTree h_t_splitPlaces h_t_layers h_t_paper h_t_held h_t_numbers h_t_sizes h_t_heldLeaves h_t_items h_t_kept t_genus t_marks t_leaves t_splits t_done t_undone t_metMany t_treesSeen t_taped t_place t_isWrong t_toldGenus t_toldMarks t_isTree t_toldLeaves t_leavesPlace t_toldSplits t_isWhy t_papered t_isKept (x1.2) a_t_powers (p0 + p1) (x2.1) (x2.2) hx2) gX9_kappaTwo_X9_kappaOne rfl rfl rfl (by decide +kernel) ⟨by first | exact Nat.le_of_ble_eq_true rfl | (simp only [headSpec]; omega), by first | exact Nat.le_of_ble_eq_true rfl | (simp only [headSpec]; omega)⟩ hK hP hD hS hA [0, 1, 2] (by decide) rfl rfl (ci := 8) rfl rfl rfl rfl rfl hl.1 (Nat.le_of_ble_eq_true rfl) dX9_kappaTwo_12 ⟨Nat.zero_le _, Nat.zero_le _⟩ [(h_t, .inr (8, [.int t_genus, .int t_marks, .ref h_t_powers, .int t_leaves, .int t_splits, .ref h_t_tree, .ref h_t_ahead, .ref h_t_behind, .ref h_t_before, .int t_done, .int t_undone, .ref h_t_rows, .ref h_t_met, .ref h_t_metSizes, .int t_metMany, .int t_treesSeen, .ref h_t_chosen, .ref h_t_tape, .int t_taped, .int t_place, .int t_isWrong, .int t_toldGenus, .int t_toldMarks, .ref h_t_toldPowers, .ref h_t_powerPlaces, .int t_isTree, .int t_toldLeaves, .int t_leavesPlace, .int t_toldSplits, .ref h_t_toldTree, .ref h_t_splitPlaces, .ref h_t_layers, .int t_isWhy, .ref h_t_paper, .int t_papered, .ref h_t_held, .ref h_t_numbers, .ref h_t_sizes, .ref h_t_heldLeaves, .ref h_t_items, .ref h_t_kept, .int t_isKept])), (h_t_rows, .inl (cI, 480, .inl (x2.2))), (h_t_powers, .inl (cI, 8, .inl a_t_powers))] [1, 2, 3] 3 (by decide +kernel) rfl rfl rfl (fun hp2 H locs hP hD hS => ?_)
  refine lv_lsub hx hb dX9_kappaTwo_15 ?_
  have h9 := Option.some.inj h
  have e9 : ((x1.1) - (x2.1)) = r0 := congrArg (fun z9 => z9.1) h9
  rw [← e9]
  have e9 : (x2.2) = w0 := congrArg (fun z9 => z9.2) h9
  rw [← e9]
  exact k_lret hx hb hr hlocks hP hS rfl dX9_kappaTwo_16
