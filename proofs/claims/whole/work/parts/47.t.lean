/-! X9_in -/
set_option maxHeartbeats 4000000 in
set_option maxRecDepth 100000 in
theorem c_X9_in (l : Launch) (G : va_G) (cI cJ cD cH : ClassId) (sz : Nat) (p0 : Int64) (p1 : Int64) (p2 : Int64) (r0 : Int32) (hF : F_X9_in p0 p1 p2 = some r0) : Met l yX9_in wsX9_in ({ frames := 0, cells := 0, slots := 0, locals := 0 }) (k_pre G (k_T cI cJ cD cH) [] sz [.long p0, .long p1, .long p2]) (va_Qi (fun r (_ : Unit) => r = r0 ∧ narrow .boolean (.int r0) = .int r0) (fun _ t => va_P G vwCl [] t.heap) (va_A [] sz)) 0 0 (va_A [] sz) := by
  refine Met.ofW (cc := cX9_in) (maxL := 6) (ret := (some .boolean)) (by decide) rfl ?_
  intro p e s m args below meth c s₁ B hml hv
  obtain ⟨rfl, hsz, hP, hK, hD0⟩ := hv
  have hx := B.exec
  have hb := B.bytes
  have hr := B.returns
  have hts := atoms_spec (ws := wsX9_in) B.pre
  have hta : ∀ w ∈ wA, w.before ([.long p0, .long p1, .long p2] : List Value).toArray s = true := hta_of hts
  have hown : s.vm.findClass RX9 = some m.cls := findClass_of_methodNamed B.named
  have hlocks := B.notSynchronized
  subst hsz
  have hD := hD0.self (sz := s.heap.size)
  generalize hAe : va_A [] s.heap.size = A at hD ⊢
  have hA : ∀ q : Nat, s.heap.size ≤ q → A q := fun q h => by rw [← hAe]; exact Or.inr h
  have hS : va_S A s.heap s.heap [] := va_S.rf
  have hl := lv_entry ([.long p0, .long p1, .long p2]) (n := 6) (Nat.le_of_ble_eq_true rfl)
  rw [lg_entry_eq]
  generalize (lg_sl ([.long p0, .long p1, .long p2]) ++ List.replicate (6 - (lg_sl ([.long p0, .long p1, .long p2])).length) Slot.unset).toArray = ls at hl ⊢
  have hl : lv_has ls 6 [(0, .long p0), (2, .long p1), (4, .long p2)] := hl
  have h := hF
  unfold F_X9_in at h
  refine lv_lload_n hx hb dX9_in_0 rfl (lv_at hl 0 rfl) ?_
  refine lv_lload_n hx hb dX9_in_1 rfl (lv_at hl 1 rfl) ?_
  refine W.lcmp hx hb dX9_in_2 ?_
  refine lv_if_lt (tgt := 17) hx hb dX9_in_3 (by decide) (fun c1 => ?_) (fun c1 => ?_)
  · have h := it_p h c1
    refine lv_iconst (v := (0 : Int32)) hx hb dX9_in_17 (by decide) ?_
    have h9 := Option.some.inj h
    have e9 : (0 : Int32) = r0 := congrArg (fun z9 => z9) h9
    subst e9
    exact k_zret hx hb hr hlocks hP hS rfl rfl dX9_in_18
  have h := it_n h c1
  refine lv_lload_n hx hb dX9_in_6 rfl (lv_at hl 0 rfl) ?_
  refine lv_lload hx hb dX9_in_7 (lv_at hl 2 rfl) ?_
  refine W.lcmp hx hb dX9_in_9 ?_
  refine lv_if_gt (tgt := 17) hx hb dX9_in_10 (by decide) (fun c2 => ?_) (fun c2 => ?_)
  · have h := it_p h c2
    refine lv_iconst (v := (0 : Int32)) hx hb dX9_in_17 (by decide) ?_
    have h9 := Option.some.inj h
    have e9 : (0 : Int32) = r0 := congrArg (fun z9 => z9) h9
    subst e9
    exact k_zret hx hb hr hlocks hP hS rfl rfl dX9_in_18
  have h := it_n h c2
  refine lv_iconst (v := (1 : Int32)) hx hb dX9_in_13 (by decide) ?_
  refine lv_goto (tgt := 18) hx hb dX9_in_14 (by decide) ?_
  have h9 := Option.some.inj h
  have e9 : (1 : Int32) = r0 := congrArg (fun z9 => z9) h9
  subst e9
  exact k_zret hx hb hr hlocks hP hS rfl rfl dX9_in_18

/-! X9_common -/
set_option maxHeartbeats 4000000 in
set_option maxRecDepth 100000 in
theorem tJ_X9_common_12 {l : Launch} {G : va_G} {cI cJ cD cH : ClassId} {p0 : Int64} {p1 : Int64} {r0 : Int64} {p : Program} {e : Env} {s : State} {m : MethodId} {below : List Frame} {meth : Method} {c : Code} {A : Nat → Prop} (hx : p.tables.exec = Jvm.exec) (hb : c.code = cX9_common) (hr : meth.sig.returnType = (some .long)) (hml : c.maxLocals = 10) (hts : ∀ w ∈ wsX9_common, w.before ([.long p0, .long p1] : List Value).toArray s = true) (hown : s.vm.findClass RX9 = some m.cls) (hlocks : meth.locks = false) (hK : va_K G vwCl (k_T cI cJ cD cH) s) (hA : ∀ q : Nat, s.heap.size ≤ q → A q) : ∀  (vJ12_0 : Int64) (H : Heap) (locs : List Loc) (ls : Array Slot), va_P G vwCl [] H → va_D A [] → va_S A s.heap H locs → lv_has ls 10 [(2, .long p1)] → J_X9_common_12 p1 vJ12_0 = some r0 → W p l e (headSpec wsX9_common ({ frames := 0, cells := 0, slots := 0, locals := 0 })).room s m ([.long p0, .long p1] : List Value).toArray below meth c H locs 0 0 (MQ below (va_Ql (fun r (_ : Unit) => r = r0 ∧ True) (fun _ t => va_P G vwCl [] t.heap) A) ([.long p0, .long p1] : List Value).toArray s 0 0 A) (F0 m 12 ls [.long vJ12_0]) := by
  have hta : ∀ w ∈ wA, w.before ([.long p0, .long p1] : List Value).toArray s = true := hta_of hts
  intro vJ12_0 H locs ls hP hD hS hl h
  unfold J_X9_common_12 at h
  refine lv_lstore (lv' := [(4, .long vJ12_0), (2, .long p1)]) hx hb dX9_common_12 hl (by decide) rfl (fun ls hl => ?_)
  refine lv_lload_n hx hb dX9_common_14 rfl (lv_at hl 1 rfl) ?_
  refine lv_lconst (v := (0 : Int64)) hx hb dX9_common_15 (by decide) ?_
  refine W.lcmp hx hb dX9_common_16 ?_
  refine lv_if_ge (tgt := 25) hx hb dX9_common_17 (by decide) (fun c1 => ?_) (fun c1 => ?_)
  · have h := it_p h c1
    refine lv_lload_n hx hb dX9_common_25 rfl (lv_at hl 1 rfl) ?_
    refine lv_lstore (lv' := [(6, .long p1), (4, .long vJ12_0), (2, .long p1)]) hx hb dX9_common_26 hl (by decide) rfl (fun ls hl => ?_)
    have hK_X9_common_28_53 : ∀  (vK28_53_0 : Int64) (H : Heap) (locs : List Loc) (ls : Array Slot), va_P G vwCl [] H → va_D A [] → va_S A s.heap H locs → lv_has ls 10 [(4, .long vK28_53_0)] → K_X9_common_28_53 vK28_53_0 = some r0 → W p l e (headSpec wsX9_common ({ frames := 0, cells := 0, slots := 0, locals := 0 })).room s m ([.long p0, .long p1] : List Value).toArray below meth c H locs 0 0 (MQ below (va_Ql (fun r (_ : Unit) => r = r0 ∧ True) (fun _ t => va_P G vwCl [] t.heap) A) ([.long p0, .long p1] : List Value).toArray s 0 0 A) (F0 m 53 ls []) := by
      intro vK28_53_0 H locs ls hP hD hS hl h
      unfold K_X9_common_28_53 at h
      refine lv_lload hx hb dX9_common_53 (lv_at hl 0 rfl) ?_
      have h9 := Option.some.inj h
      have e9 : vK28_53_0 = r0 := congrArg (fun z9 => z9) h9
      subst e9
      exact k_lret hx hb hr hlocks hP hS rfl dX9_common_55
    have hL28 : ∀ (n28 : Nat) (vL28_0 : Int64) (vL28_1 : Int64) (H : Heap) (locs : List Loc) (ls : Array Slot), va_P G vwCl [] H → va_D A [] → va_S A s.heap H locs → lv_has ls 10 [(4, .long vL28_0), (6, .long vL28_1)] → wq2 (B_X9_common_28 K_X9_common_28_53) n28 vL28_0 vL28_1 = some r0 → W p l e (headSpec wsX9_common ({ frames := 0, cells := 0, slots := 0, locals := 0 })).room s m ([.long p0, .long p1] : List Value).toArray below meth c H locs 0 0 (MQ below (va_Ql (fun r (_ : Unit) => r = r0 ∧ True) (fun _ t => va_P G vwCl [] t.heap) A) ([.long p0, .long p1] : List Value).toArray s 0 0 A) (F0 m 28 ls []) := by
      intro n28
      induction n28 with
      | zero => intro vL28_0 vL28_1 H locs ls hP hD hS hl h; exact wq2_0 h
      | succ n28 ih28 =>
        intro vL28_0 vL28_1 H locs ls hP hD hS hl h
        have h := wq2_s h
        unfold B_X9_common_28 at h
        refine lv_lload hx hb dX9_common_28 (lv_at hl 1 rfl) ?_
        refine lv_lconst (v := (0 : Int64)) hx hb dX9_common_30 (by decide) ?_
        refine W.lcmp hx hb dX9_common_31 ?_
        refine lv_if_eq (tgt := 53) hx hb dX9_common_32 (by decide) (fun c2 => ?_) (fun c2 => ?_)
        · have h := it_p h c2
          exact hK_X9_common_28_53 vL28_0 _ _ _ hP hD hS (lv_sub hl [0] rfl) h
        have h := it_n h c2
        refine lv_lload hx hb dX9_common_35 (lv_at hl 0 rfl) ?_
        refine lv_lload hx hb dX9_common_37 (lv_at hl 1 rfl) ?_
        obtain ⟨hz3, h⟩ := dvl_e h
        refine lv_lrem hx hb dX9_common_39 hz3 ?_
        refine lv_lstore (lv' := [(8, .long (vL28_0 - vL28_0 / vL28_1 * vL28_1)), (4, .long vL28_0), (6, .long vL28_1)]) hx hb dX9_common_40 hl (by decide) rfl (fun ls hl => ?_)
        refine lv_lload hx hb dX9_common_42 (lv_at hl 2 rfl) ?_
        refine lv_lstore (lv' := [(4, .long vL28_1), (8, .long (vL28_0 - vL28_0 / vL28_1 * vL28_1)), (6, .long vL28_1)]) hx hb dX9_common_44 hl (by decide) rfl (fun ls hl => ?_)
        refine lv_lload hx hb dX9_common_46 (lv_at hl 1 rfl) ?_
        refine lv_lstore (lv' := [(6, .long (vL28_0 - vL28_0 / vL28_1 * vL28_1)), (4, .long vL28_1), (8, .long (vL28_0 - vL28_0 / vL28_1 * vL28_1))]) hx hb dX9_common_48 hl (by decide) rfl (fun ls hl => ?_)
        refine lv_goto (tgt := 28) hx hb dX9_common_50 (by decide) ?_
        exact ih28 vL28_1 (vL28_0 - vL28_0 / vL28_1 * vL28_1) _ _ _ hP hD hS (lv_sub hl [1, 0] rfl) h
    exact hL28 FU vJ12_0 p1 _ _ _ hP hD hS (lv_sub hl [1, 0] rfl) h
  have h := it_n h c1
  refine lv_lload_n hx hb dX9_common_20 rfl (lv_at hl 1 rfl) ?_
  refine lv_lneg hx hb dX9_common_21 ?_
  refine lv_goto (tgt := 26) hx hb dX9_common_22 (by decide) ?_
  refine lv_lstore (lv' := [(6, .long (-p1)), (4, .long vJ12_0), (2, .long p1)]) hx hb dX9_common_26 hl (by decide) rfl (fun ls hl => ?_)
  have hK_X9_common_28_53x1 : ∀  (vK28_53_0 : Int64) (H : Heap) (locs : List Loc) (ls : Array Slot), va_P G vwCl [] H → va_D A [] → va_S A s.heap H locs → lv_has ls 10 [(4, .long vK28_53_0)] → K_X9_common_28_53x1 vK28_53_0 = some r0 → W p l e (headSpec wsX9_common ({ frames := 0, cells := 0, slots := 0, locals := 0 })).room s m ([.long p0, .long p1] : List Value).toArray below meth c H locs 0 0 (MQ below (va_Ql (fun r (_ : Unit) => r = r0 ∧ True) (fun _ t => va_P G vwCl [] t.heap) A) ([.long p0, .long p1] : List Value).toArray s 0 0 A) (F0 m 53 ls []) := by
    intro vK28_53_0 H locs ls hP hD hS hl h
    unfold K_X9_common_28_53x1 at h
    refine lv_lload hx hb dX9_common_53 (lv_at hl 0 rfl) ?_
    have h9 := Option.some.inj h
    have e9 : vK28_53_0 = r0 := congrArg (fun z9 => z9) h9
    subst e9
    exact k_lret hx hb hr hlocks hP hS rfl dX9_common_55
  have hL28x1 : ∀ (n28 : Nat) (vL28_0 : Int64) (vL28_1 : Int64) (H : Heap) (locs : List Loc) (ls : Array Slot), va_P G vwCl [] H → va_D A [] → va_S A s.heap H locs → lv_has ls 10 [(4, .long vL28_0), (6, .long vL28_1)] → wq2 (B_X9_common_28x1 K_X9_common_28_53x1) n28 vL28_0 vL28_1 = some r0 → W p l e (headSpec wsX9_common ({ frames := 0, cells := 0, slots := 0, locals := 0 })).room s m ([.long p0, .long p1] : List Value).toArray below meth c H locs 0 0 (MQ below (va_Ql (fun r (_ : Unit) => r = r0 ∧ True) (fun _ t => va_P G vwCl [] t.heap) A) ([.long p0, .long p1] : List Value).toArray s 0 0 A) (F0 m 28 ls []) := by
    intro n28
    induction n28 with
    | zero => intro vL28_0 vL28_1 H locs ls hP hD hS hl h; exact wq2_0 h
    | succ n28 ih28 =>
      intro vL28_0 vL28_1 H locs ls hP hD hS hl h
      have h := wq2_s h
      unfold B_X9_common_28x1 at h
      refine lv_lload hx hb dX9_common_28 (lv_at hl 1 rfl) ?_
      refine lv_lconst (v := (0 : Int64)) hx hb dX9_common_30 (by decide) ?_
      refine W.lcmp hx hb dX9_common_31 ?_
      refine lv_if_eq (tgt := 53) hx hb dX9_common_32 (by decide) (fun c4 => ?_) (fun c4 => ?_)
      · have h := it_p h c4
        exact hK_X9_common_28_53x1 vL28_0 _ _ _ hP hD hS (lv_sub hl [0] rfl) h
      have h := it_n h c4
      refine lv_lload hx hb dX9_common_35 (lv_at hl 0 rfl) ?_
      refine lv_lload hx hb dX9_common_37 (lv_at hl 1 rfl) ?_
      obtain ⟨hz5, h⟩ := dvl_e h
      refine lv_lrem hx hb dX9_common_39 hz5 ?_
      refine lv_lstore (lv' := [(8, .long (vL28_0 - vL28_0 / vL28_1 * vL28_1)), (4, .long vL28_0), (6, .long vL28_1)]) hx hb dX9_common_40 hl (by decide) rfl (fun ls hl => ?_)
      refine lv_lload hx hb dX9_common_42 (lv_at hl 2 rfl) ?_
      refine lv_lstore (lv' := [(4, .long vL28_1), (8, .long (vL28_0 - vL28_0 / vL28_1 * vL28_1)), (6, .long vL28_1)]) hx hb dX9_common_44 hl (by decide) rfl (fun ls hl => ?_)
      refine lv_lload hx hb dX9_common_46 (lv_at hl 1 rfl) ?_
      refine lv_lstore (lv' := [(6, .long (vL28_0 - vL28_0 / vL28_1 * vL28_1)), (4, .long vL28_1), (8, .long (vL28_0 - vL28_0 / vL28_1 * vL28_1))]) hx hb dX9_common_48 hl (by decide) rfl (fun ls hl => ?_)
      refine lv_goto (tgt := 28) hx hb dX9_common_50 (by decide) ?_
      exact ih28 vL28_1 (vL28_0 - vL28_0 / vL28_1 * vL28_1) _ _ _ hP hD hS (lv_sub hl [1, 0] rfl) h
  exact hL28x1 FU vJ12_0 (-p1) _ _ _ hP hD hS (lv_sub hl [1, 0] rfl) h
set_option maxHeartbeats 4000000 in
set_option maxRecDepth 100000 in
theorem c_X9_common (l : Launch) (G : va_G) (cI cJ cD cH : ClassId) (sz : Nat) (p0 : Int64) (p1 : Int64) (r0 : Int64) (hF : F_X9_common p0 p1 = some r0) : Met l yX9_common wsX9_common ({ frames := 0, cells := 0, slots := 0, locals := 0 }) (k_pre G (k_T cI cJ cD cH) [] sz [.long p0, .long p1]) (va_Ql (fun r (_ : Unit) => r = r0 ∧ True) (fun _ t => va_P G vwCl [] t.heap) (va_A [] sz)) 0 0 (va_A [] sz) := by
  refine Met.ofW (cc := cX9_common) (maxL := 10) (ret := (some .long)) (by decide) rfl ?_
  intro p e s m args below meth c s₁ B hml hv
  obtain ⟨rfl, hsz, hP, hK, hD0⟩ := hv
  have hx := B.exec
  have hb := B.bytes
  have hr := B.returns
  have hts := atoms_spec (ws := wsX9_common) B.pre
  have hta : ∀ w ∈ wA, w.before ([.long p0, .long p1] : List Value).toArray s = true := hta_of hts
  have hown : s.vm.findClass RX9 = some m.cls := findClass_of_methodNamed B.named
  have hlocks := B.notSynchronized
  subst hsz
  have hD := hD0.self (sz := s.heap.size)
  generalize hAe : va_A [] s.heap.size = A at hD ⊢
  have hA : ∀ q : Nat, s.heap.size ≤ q → A q := fun q h => by rw [← hAe]; exact Or.inr h
  have hS : va_S A s.heap s.heap [] := va_S.rf
  have hl := lv_entry ([.long p0, .long p1]) (n := 10) (Nat.le_of_ble_eq_true rfl)
  rw [lg_entry_eq]
  generalize (lg_sl ([.long p0, .long p1]) ++ List.replicate (10 - (lg_sl ([.long p0, .long p1])).length) Slot.unset).toArray = ls at hl ⊢
  have hl : lv_has ls 10 [(0, .long p0), (2, .long p1)] := hl
  have h := hF
  unfold F_X9_common at h
  refine lv_lload_n hx hb dX9_common_0 rfl (lv_at hl 0 rfl) ?_
  refine lv_lconst (v := (0 : Int64)) hx hb dX9_common_1 (by decide) ?_
  refine W.lcmp hx hb dX9_common_2 ?_
  refine lv_if_ge (tgt := 11) hx hb dX9_common_3 (by decide) (fun c6 => ?_) (fun c6 => ?_)
  · have h := it_p h c6
    refine lv_lload_n hx hb dX9_common_11 rfl (lv_at hl 0 rfl) ?_
    exact tJ_X9_common_12 hx hb hr hml hts hown hlocks hK hA p0 _ _ _ hP hD hS (lv_sub hl [1] rfl) h
  have h := it_n h c6
  refine lv_lload_n hx hb dX9_common_6 rfl (lv_at hl 0 rfl) ?_
  refine lv_lneg hx hb dX9_common_7 ?_
  refine lv_goto (tgt := 12) hx hb dX9_common_8 (by decide) ?_
  exact tJ_X9_common_12 hx hb hr hml hts hown hlocks hK hA (-p0) _ _ _ hP hD hS (lv_sub hl [1] rfl) h

/-! X9_part -/
set_option maxHeartbeats 4000000 in
set_option maxRecDepth 100000 in
theorem c_X9_part (l : Launch) (G : va_G) (cI cJ cD cH : ClassId) (sz : Nat) (p0 : Int64) (p1 : Int64) (p2 : Int32) (r0 : Int64) (hF : F_X9_part p0 p1 p2 = some r0) : Met l yX9_part wsX9_part ({ frames := 1, cells := 0, slots := 0, locals := 29 }) (k_pre G (k_T cI cJ cD cH) [] sz [.long p0, .long p1, .int p2]) (va_Ql (fun r (_ : Unit) => r = r0 ∧ True) (fun _ t => va_P G vwCl [] t.heap) (va_A [] sz)) 0 0 (va_A [] sz) := by
  refine Met.ofW (cc := cX9_part) (maxL := 7) (ret := (some .long)) (by decide) rfl ?_
  intro p e s m args below meth c s₁ B hml hv
  obtain ⟨rfl, hsz, hP, hK, hD0⟩ := hv
  have hx := B.exec
  have hb := B.bytes
  have hr := B.returns
  have hts := atoms_spec (ws := wsX9_part) B.pre
  have hta : ∀ w ∈ wA, w.before ([.long p0, .long p1, .int p2] : List Value).toArray s = true := hta_of hts
  have hown : s.vm.findClass RX9 = some m.cls := findClass_of_methodNamed B.named
  have hlocks := B.notSynchronized
  subst hsz
  have hD := hD0.self (sz := s.heap.size)
  generalize hAe : va_A [] s.heap.size = A at hD ⊢
  have hA : ∀ q : Nat, s.heap.size ≤ q → A q := fun q h => by rw [← hAe]; exact Or.inr h
  have hS : va_S A s.heap s.heap [] := va_S.rf
  have hl := lv_entry ([.long p0, .long p1, .int p2]) (n := 7) (Nat.le_of_ble_eq_true rfl)
  rw [lg_entry_eq]
  generalize (lg_sl ([.long p0, .long p1, .int p2]) ++ List.replicate (7 - (lg_sl ([.long p0, .long p1, .int p2])).length) Slot.unset).toArray = ls at hl ⊢
  have hl : lv_has ls 7 [(0, .long p0), (2, .long p1), (4, .int p2)] := hl
  have h := hF
  unfold F_X9_part at h
  refine lv_lload_n hx hb dX9_part_0 rfl (lv_at hl 0 rfl) ?_
  refine lv_lload_n hx hb dX9_part_1 rfl (lv_at hl 1 rfl) ?_
  obtain ⟨x1, hx1, h⟩ := bd_e h
  try dsimp only at h
  refine k_SlU (n := 2) (As := [.long p0, .long p1]) (rest := []) hx hb hml hown hts (c_X9_common l G cI cJ cD cH s.heap.size p0 p1 x1 hx1) gX9_part_X9_common rfl rfl rfl (by decide +kernel) ⟨by first | exact Nat.le_of_ble_eq_true rfl | (simp only [headSpec]; omega), by first | exact Nat.le_of_ble_eq_true rfl | (simp only [headSpec]; omega)⟩ hK hP hD hS hA [] (by decide) rfl rfl rfl hl.1 (Nat.le_of_ble_eq_true rfl) dX9_part_2 ⟨Nat.zero_le _, Nat.zero_le _⟩ (fun hp1 H locs hP hS => ?_)
  refine lv_lstore (lv' := [(5, .long x1), (0, .long p0), (2, .long p1), (4, .int p2)]) hx hb dX9_part_5 hl (by decide) rfl (fun ls hl => ?_)
  refine lv_iload hx hb dX9_part_7 (lv_at hl 3 rfl) ?_
  refine lv_if_ne (tgt := 19) hx hb dX9_part_9 (by decide) (fun c2 => ?_) (fun c2 => ?_)
  · have h := it_n h c2
    refine lv_lload_n hx hb dX9_part_19 rfl (lv_at hl 2 rfl) ?_
    refine lv_lload hx hb dX9_part_20 (lv_at hl 0 rfl) ?_
    obtain ⟨hz3, h⟩ := dvl_e h
    refine lv_ldiv hx hb dX9_part_22 hz3 ?_
    have h9 := Option.some.inj h
    have e9 : (p1 / x1) = r0 := congrArg (fun z9 => z9) h9
    subst e9
    exact k_lret hx hb hr hlocks hP hS rfl dX9_part_23
  have h := it_p h c2
  refine lv_lload_n hx hb dX9_part_12 rfl (lv_at hl 1 rfl) ?_
  refine lv_lload hx hb dX9_part_13 (lv_at hl 0 rfl) ?_
  obtain ⟨hz4, h⟩ := dvl_e h
  refine lv_ldiv hx hb dX9_part_15 hz4 ?_
  refine lv_goto (tgt := 23) hx hb dX9_part_16 (by decide) ?_
  have h9 := Option.some.inj h
  have e9 : (p0 / x1) = r0 := congrArg (fun z9 => z9) h9
  subst e9
  exact k_lret hx hb hr hlocks hP hS rfl dX9_part_23

/-! X9_bits -/
set_option maxHeartbeats 4000000 in
set_option maxRecDepth 100000 in
theorem c_X9_bits (l : Launch) (G : va_G) (cI cJ cD cH : ClassId) (sz : Nat) (p0 : Int32) (r0 : Int32) (hF : F_X9_bits p0 = some r0) : Met l yX9_bits wsX9_bits ({ frames := 0, cells := 0, slots := 0, locals := 0 }) (k_pre G (k_T cI cJ cD cH) [] sz [.int p0]) (va_Qi (fun r (_ : Unit) => r = r0 ∧ True) (fun _ t => va_P G vwCl [] t.heap) (va_A [] sz)) 0 0 (va_A [] sz) := by
  refine Met.ofW (cc := cX9_bits) (maxL := 3) (ret := (some .int)) (by decide) rfl ?_
  intro p e s m args below meth c s₁ B hml hv
  obtain ⟨rfl, hsz, hP, hK, hD0⟩ := hv
  have hx := B.exec
  have hb := B.bytes
  have hr := B.returns
  have hts := atoms_spec (ws := wsX9_bits) B.pre
  have hta : ∀ w ∈ wA, w.before ([.int p0] : List Value).toArray s = true := hta_of hts
  have hown : s.vm.findClass RX9 = some m.cls := findClass_of_methodNamed B.named
  have hlocks := B.notSynchronized
  subst hsz
  have hD := hD0.self (sz := s.heap.size)
  generalize hAe : va_A [] s.heap.size = A at hD ⊢
  have hA : ∀ q : Nat, s.heap.size ≤ q → A q := fun q h => by rw [← hAe]; exact Or.inr h
  have hS : va_S A s.heap s.heap [] := va_S.rf
  have hl := lv_entry ([.int p0]) (n := 3) (Nat.le_of_ble_eq_true rfl)
  rw [lg_entry_eq]
  generalize (lg_sl ([.int p0]) ++ List.replicate (3 - (lg_sl ([.int p0])).length) Slot.unset).toArray = ls at hl ⊢
  have hl : lv_has ls 3 [(0, .int p0)] := hl
  have h := hF
  unfold F_X9_bits at h
  refine lv_iconst (v := (0 : Int32)) hx hb dX9_bits_0 (by decide) ?_
  refine lv_istore_n (lv' := [(1, .int (0 : Int32)), (0, .int p0)]) hx hb dX9_bits_1 rfl hl (by decide) rfl (fun ls hl => ?_)
  refine lv_iconst (v := (0 : Int32)) hx hb dX9_bits_2 (by decide) ?_
  refine lv_istore_n (lv' := [(2, .int (0 : Int32)), (1, .int (0 : Int32)), (0, .int p0)]) hx hb dX9_bits_3 rfl hl (by decide) rfl (fun ls hl => ?_)
  have hK_X9_bits_4_24 : ∀  (vK4_24_0 : Int32) (H : Heap) (locs : List Loc) (ls : Array Slot), va_P G vwCl [] H → va_D A [] → va_S A s.heap H locs → lv_has ls 3 [(1, .int vK4_24_0)] → K_X9_bits_4_24 vK4_24_0 = some r0 → W p l e (headSpec wsX9_bits ({ frames := 0, cells := 0, slots := 0, locals := 0 })).room s m ([.int p0] : List Value).toArray below meth c H locs 0 0 (MQ below (va_Qi (fun r (_ : Unit) => r = r0 ∧ True) (fun _ t => va_P G vwCl [] t.heap) A) ([.int p0] : List Value).toArray s 0 0 A) (F0 m 24 ls []) := by
    intro vK4_24_0 H locs ls hP hD hS hl h
    unfold K_X9_bits_4_24 at h
    refine lv_iload_n hx hb dX9_bits_24 rfl (lv_at hl 0 rfl) ?_
    have h9 := Option.some.inj h
    have e9 : vK4_24_0 = r0 := congrArg (fun z9 => z9) h9
    subst e9
    exact k_iret hx hb hr hlocks hP hS rfl dX9_bits_25
  have hL4 : ∀ (n4 : Nat) (vL4_0 : Int32) (vL4_1 : Int32) (H : Heap) (locs : List Loc) (ls : Array Slot), va_P G vwCl [] H → va_D A [] → va_S A s.heap H locs → lv_has ls 3 [(0, .int p0), (1, .int vL4_0), (2, .int vL4_1)] → wq2 (B_X9_bits_4 p0 K_X9_bits_4_24) n4 vL4_0 vL4_1 = some r0 → W p l e (headSpec wsX9_bits ({ frames := 0, cells := 0, slots := 0, locals := 0 })).room s m ([.int p0] : List Value).toArray below meth c H locs 0 0 (MQ below (va_Qi (fun r (_ : Unit) => r = r0 ∧ True) (fun _ t => va_P G vwCl [] t.heap) A) ([.int p0] : List Value).toArray s 0 0 A) (F0 m 4 ls []) := by
    intro n4
    induction n4 with
    | zero => intro vL4_0 vL4_1 H locs ls hP hD hS hl h; exact wq2_0 h
    | succ n4 ih4 =>
      intro vL4_0 vL4_1 H locs ls hP hD hS hl h
      have h := wq2_s h
      unfold B_X9_bits_4 at h
      refine lv_iload_n hx hb dX9_bits_4 rfl (lv_at hl 2 rfl) ?_
      refine lv_bipush (v := (6 : Int32)) hx hb dX9_bits_5 (by decide) ?_
      refine lv_icmp_ge (tgt := 24) hx hb dX9_bits_7 (by decide) (fun c1 => ?_) (fun c1 => ?_)
      · have h := it_p h c1
        exact hK_X9_bits_4_24 vL4_0 _ _ _ hP hD hS (lv_sub hl [1] rfl) h
      have h := it_n h c1
      refine lv_iload_n hx hb dX9_bits_10 rfl (lv_at hl 1 rfl) ?_
      refine lv_iload_n hx hb dX9_bits_11 rfl (lv_at hl 0 rfl) ?_
      refine lv_iload_n hx hb dX9_bits_12 rfl (lv_at hl 2 rfl) ?_
      refine lv_ishr hx hb dX9_bits_13 ?_
      refine lv_iconst (v := (1 : Int32)) hx hb dX9_bits_14 (by decide) ?_
      refine lv_iand hx hb dX9_bits_15 ?_
      refine lv_iadd hx hb dX9_bits_16 ?_
      refine lv_istore_n (lv' := [(1, .int (vL4_0 + ((p0 >>> (vL4_1 &&& 31)) &&& (1 : Int32)))), (0, .int p0), (2, .int vL4_1)]) hx hb dX9_bits_17 rfl hl (by decide) rfl (fun ls hl => ?_)
      refine lv_iinc (v := (vL4_1 + (1 : Int32))) (lv' := [(2, .int (vL4_1 + (1 : Int32))), (1, .int (vL4_0 + ((p0 >>> (vL4_1 &&& 31)) &&& (1 : Int32)))), (0, .int p0)]) hx hb dX9_bits_18 hl (k := 2) rfl (by first | rfl | decide) (by decide) rfl (fun ls hl => ?_)
      refine lv_goto (tgt := 4) hx hb dX9_bits_21 (by decide) ?_
      exact ih4 (vL4_0 + ((p0 >>> (vL4_1 &&& 31)) &&& (1 : Int32))) (vL4_1 + (1 : Int32)) _ _ _ hP hD hS (lv_sub hl [2, 1, 0] rfl) h
  exact hL4 FU (0 : Int32) (0 : Int32) _ _ _ hP hD hS (lv_sub hl [2, 1, 0] rfl) h
