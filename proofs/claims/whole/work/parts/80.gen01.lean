/-! X0_undoable -/
set_option maxHeartbeats 4000000 in
set_option maxRecDepth 100000 in
theorem c_X0_undoable (l : Launch) (G : va_G) (cI cJ cD cH : ClassId) (sz : Nat) (h_t : Nat) (h_t_desks : Nat) (t_now : Int32) (t_last : Int32) (r0 : Int32) (hF : F_X0_undoable t_now = some r0) : Met l yX0_undoable wsX0_undoable ({ frames := 0, cells := 0, slots := 0, locals := 0 }) (k_pre G (k_T cI cJ cD cH) [(h_t, .inr (0, [.ref h_t_desks, .int t_now, .int t_last]))] sz [.ref h_t]) (va_Qi (fun r (_ : Unit) => r = r0 ∧ True) (fun _ t => va_P G vwCl [(h_t, .inr (0, [.ref h_t_desks, .int t_now, .int t_last]))] t.heap) (va_A [(h_t, .inr (0, [.ref h_t_desks, .int t_now, .int t_last]))] sz)) 0 0 (va_A [(h_t, .inr (0, [.ref h_t_desks, .int t_now, .int t_last]))] sz) := by
  refine Met.ofW (cc := cX0_undoable) (maxL := 1) (ret := (some .int)) (by decide) rfl ?_
  intro p e s m args below meth c s₁ B hml hv
  obtain ⟨rfl, hsz, hP, hK, hD0⟩ := hv
  have hx := B.exec
  have hb := B.bytes
  have hr := B.returns
  have hts := atoms_spec (ws := wsX0_undoable) B.pre
  have hta : ∀ w ∈ wA, w.before ([.ref h_t] : List Value).toArray s = true := hta_of hts
  have hown : s.vm.findClass RX0 = some m.cls := findClass_of_methodNamed B.named
  have hlocks := B.notSynchronized
  subst hsz
  have hD := hD0.self (sz := s.heap.size)
  generalize hAe : va_A [(h_t, .inr (0, [.ref h_t_desks, .int t_now, .int t_last]))] s.heap.size = A at hD ⊢
  have hA : ∀ q : Nat, s.heap.size ≤ q → A q := fun q h => by rw [← hAe]; exact Or.inr h
  have hS : va_S A s.heap s.heap [] := va_S.rf
  have hl := lv_entry ([.ref h_t]) (n := 1) (Nat.le_of_ble_eq_true rfl)
  rw [lg_entry_eq]
  generalize (lg_sl ([.ref h_t]) ++ List.replicate (1 - (lg_sl ([.ref h_t])).length) Slot.unset).toArray = ls at hl ⊢
  have hl : lv_has ls 1 [(0, .ref h_t)] := hl
  have hinX0 : ∀ w ∈ wsX00, w ∈ wsX0_undoable := hin_of in_X0
  have h := hF
  unfold F_X0_undoable at h
  refine lv_aload_n hx hb dX0_undoable_0 rfl (lv_at hl 0 rfl) ?_
  refine va_get (D := G) (ci := 0) (v := .int t_now) (C := RX0) (T := TX0) (N := 3) hx hb hts hinX0 hown hK hP 0 rfl rfl 1 (by decide) (hta _ mw_16) (fun _ h9 => h9) rfl dX0_undoable_1 ?_
  have h9 := Option.some.inj h
  have e9 : t_now = r0 := congrArg (fun z9 => z9) h9
  rw [← e9]
  exact k_iret hx hb hr hlocks hP hS rfl dX0_undoable_4

/-! X0_repeatable -/
set_option maxHeartbeats 4000000 in
set_option maxRecDepth 100000 in
theorem c_X0_repeatable (l : Launch) (G : va_G) (cI cJ cD cH : ClassId) (sz : Nat) (h_t : Nat) (h_t_desks : Nat) (t_now : Int32) (t_last : Int32) (r0 : Int32) (hF : F_X0_repeatable t_now t_last = some r0) : Met l yX0_repeatable wsX0_repeatable ({ frames := 0, cells := 0, slots := 0, locals := 0 }) (k_pre G (k_T cI cJ cD cH) [(h_t, .inr (0, [.ref h_t_desks, .int t_now, .int t_last]))] sz [.ref h_t]) (va_Qi (fun r (_ : Unit) => r = r0 ∧ True) (fun _ t => va_P G vwCl [(h_t, .inr (0, [.ref h_t_desks, .int t_now, .int t_last]))] t.heap) (va_A [(h_t, .inr (0, [.ref h_t_desks, .int t_now, .int t_last]))] sz)) 0 0 (va_A [(h_t, .inr (0, [.ref h_t_desks, .int t_now, .int t_last]))] sz) := by
  refine Met.ofW (cc := cX0_repeatable) (maxL := 1) (ret := (some .int)) (by decide) rfl ?_
  intro p e s m args below meth c s₁ B hml hv
  obtain ⟨rfl, hsz, hP, hK, hD0⟩ := hv
  have hx := B.exec
  have hb := B.bytes
  have hr := B.returns
  have hts := atoms_spec (ws := wsX0_repeatable) B.pre
  have hta : ∀ w ∈ wA, w.before ([.ref h_t] : List Value).toArray s = true := hta_of hts
  have hown : s.vm.findClass RX0 = some m.cls := findClass_of_methodNamed B.named
  have hlocks := B.notSynchronized
  subst hsz
  have hD := hD0.self (sz := s.heap.size)
  generalize hAe : va_A [(h_t, .inr (0, [.ref h_t_desks, .int t_now, .int t_last]))] s.heap.size = A at hD ⊢
  have hA : ∀ q : Nat, s.heap.size ≤ q → A q := fun q h => by rw [← hAe]; exact Or.inr h
  have hS : va_S A s.heap s.heap [] := va_S.rf
  have hl := lv_entry ([.ref h_t]) (n := 1) (Nat.le_of_ble_eq_true rfl)
  rw [lg_entry_eq]
  generalize (lg_sl ([.ref h_t]) ++ List.replicate (1 - (lg_sl ([.ref h_t])).length) Slot.unset).toArray = ls at hl ⊢
  have hl : lv_has ls 1 [(0, .ref h_t)] := hl
  have hinX0 : ∀ w ∈ wsX00, w ∈ wsX0_repeatable := hin_of in_X0
  have h := hF
  unfold F_X0_repeatable at h
  refine lv_aload_n hx hb dX0_repeatable_0 rfl (lv_at hl 0 rfl) ?_
  refine va_get (D := G) (ci := 0) (v := .int t_last) (C := RX0) (T := TX0) (N := 3) hx hb hts hinX0 hown hK hP 0 rfl rfl 2 (by decide) (hta _ mw_18) (fun _ h9 => h9) rfl dX0_repeatable_1 ?_
  refine lv_aload_n hx hb dX0_repeatable_4 rfl (lv_at hl 0 rfl) ?_
  refine va_get (D := G) (ci := 0) (v := .int t_now) (C := RX0) (T := TX0) (N := 3) hx hb hts hinX0 hown hK hP 0 rfl rfl 1 (by decide) (hta _ mw_16) (fun _ h9 => h9) rfl dX0_repeatable_5 ?_
  refine lv_isub hx hb dX0_repeatable_8 ?_
  have h9 := Option.some.inj h
  have e9 : (t_last - t_now) = r0 := congrArg (fun z9 => z9) h9
  rw [← e9]
  exact k_iret hx hb hr hlocks hP hS rfl dX0_repeatable_9

/-! X0_present -/
set_option maxHeartbeats 40000000 in
set_option maxRecDepth 100000 in
theorem c_X0_present (l : Launch) (G : va_G) (cI cJ cD cH : ClassId) (sz : Nat) (h_t : Nat) (h_t_desks : Nat) (d_t_desks : Nat → Nat) (q_t_desks : Nat → Nat) (a_t_desks : Nat → Nat → Int32) (t_desks_genus : Nat → Int32) (t_desks_size : Nat → Int32) (t_desks_limit : Nat → Int32) (t_desks_tree : Nat → Int64) (t_now : Int32) (t_last : Int32) (r0 : Nat) (hF : F_X0_present t_now = some r0) : Met l yX0_present wsX0_present ({ frames := 0, cells := 0, slots := 0, locals := 0 }) (k_pre G (k_T cI cJ cD cH) [(h_t, .inr (0, [.ref h_t_desks, .int t_now, .int t_last])), (h_t_desks, .inl (cD, 9, .inr (.inr (.inr (.inr (fun i => some (d_t_desks i))))))), ((d_t_desks 0), .inr (1, [.int (t_desks_genus 0), .int (t_desks_size 0), .ref (q_t_desks 0), .int (t_desks_limit 0), .long (t_desks_tree 0)])), ((q_t_desks 0), .inl (cI, 8, .inl (a_t_desks 0))), ((d_t_desks 1), .inr (1, [.int (t_desks_genus 1), .int (t_desks_size 1), .ref (q_t_desks 1), .int (t_desks_limit 1), .long (t_desks_tree 1)])), ((q_t_desks 1), .inl (cI, 8, .inl (a_t_desks 1))), ((d_t_desks 2), .inr (1, [.int (t_desks_genus 2), .int (t_desks_size 2), .ref (q_t_desks 2), .int (t_desks_limit 2), .long (t_desks_tree 2)])), ((q_t_desks 2), .inl (cI, 8, .inl (a_t_desks 2))), ((d_t_desks 3), .inr (1, [.int (t_desks_genus 3), .int (t_desks_size 3), .ref (q_t_desks 3), .int (t_desks_limit 3), .long (t_desks_tree 3)])), ((q_t_desks 3), .inl (cI, 8, .inl (a_t_desks 3))), ((d_t_desks 4), .inr (1, [.int (t_desks_genus 4), .int (t_desks_size 4), .ref (q_t_desks 4), .int (t_desks_limit 4), .long (t_desks_tree 4)])), ((q_t_desks 4), .inl (cI, 8, .inl (a_t_desks 4))), ((d_t_desks 5), .inr (1, [.int (t_desks_genus 5), .int (t_desks_size 5), .ref (q_t_desks 5), .int (t_desks_limit 5), .long (t_desks_tree 5)])), ((q_t_desks 5), .inl (cI, 8, .inl (a_t_desks 5))), ((d_t_desks 6), .inr (1, [.int (t_desks_genus 6), .int (t_desks_size 6), .ref (q_t_desks 6), .int (t_desks_limit 6), .long (t_desks_tree 6)])), ((q_t_desks 6), .inl (cI, 8, .inl (a_t_desks 6))), ((d_t_desks 7), .inr (1, [.int (t_desks_genus 7), .int (t_desks_size 7), .ref (q_t_desks 7), .int (t_desks_limit 7), .long (t_desks_tree 7)])), ((q_t_desks 7), .inl (cI, 8, .inl (a_t_desks 7))), ((d_t_desks 8), .inr (1, [.int (t_desks_genus 8), .int (t_desks_size 8), .ref (q_t_desks 8), .int (t_desks_limit 8), .long (t_desks_tree 8)])), ((q_t_desks 8), .inl (cI, 8, .inl (a_t_desks 8)))] sz [.ref h_t]) (va_Qq (fun r (_ : Unit) => r = (some (d_t_desks r0))) (fun _ t => va_P G vwCl [(h_t, .inr (0, [.ref h_t_desks, .int t_now, .int t_last])), (h_t_desks, .inl (cD, 9, .inr (.inr (.inr (.inr (fun i => some (d_t_desks i))))))), ((d_t_desks 0), .inr (1, [.int (t_desks_genus 0), .int (t_desks_size 0), .ref (q_t_desks 0), .int (t_desks_limit 0), .long (t_desks_tree 0)])), ((q_t_desks 0), .inl (cI, 8, .inl (a_t_desks 0))), ((d_t_desks 1), .inr (1, [.int (t_desks_genus 1), .int (t_desks_size 1), .ref (q_t_desks 1), .int (t_desks_limit 1), .long (t_desks_tree 1)])), ((q_t_desks 1), .inl (cI, 8, .inl (a_t_desks 1))), ((d_t_desks 2), .inr (1, [.int (t_desks_genus 2), .int (t_desks_size 2), .ref (q_t_desks 2), .int (t_desks_limit 2), .long (t_desks_tree 2)])), ((q_t_desks 2), .inl (cI, 8, .inl (a_t_desks 2))), ((d_t_desks 3), .inr (1, [.int (t_desks_genus 3), .int (t_desks_size 3), .ref (q_t_desks 3), .int (t_desks_limit 3), .long (t_desks_tree 3)])), ((q_t_desks 3), .inl (cI, 8, .inl (a_t_desks 3))), ((d_t_desks 4), .inr (1, [.int (t_desks_genus 4), .int (t_desks_size 4), .ref (q_t_desks 4), .int (t_desks_limit 4), .long (t_desks_tree 4)])), ((q_t_desks 4), .inl (cI, 8, .inl (a_t_desks 4))), ((d_t_desks 5), .inr (1, [.int (t_desks_genus 5), .int (t_desks_size 5), .ref (q_t_desks 5), .int (t_desks_limit 5), .long (t_desks_tree 5)])), ((q_t_desks 5), .inl (cI, 8, .inl (a_t_desks 5))), ((d_t_desks 6), .inr (1, [.int (t_desks_genus 6), .int (t_desks_size 6), .ref (q_t_desks 6), .int (t_desks_limit 6), .long (t_desks_tree 6)])), ((q_t_desks 6), .inl (cI, 8, .inl (a_t_desks 6))), ((d_t_desks 7), .inr (1, [.int (t_desks_genus 7), .int (t_desks_size 7), .ref (q_t_desks 7), .int (t_desks_limit 7), .long (t_desks_tree 7)])), ((q_t_desks 7), .inl (cI, 8, .inl (a_t_desks 7))), ((d_t_desks 8), .inr (1, [.int (t_desks_genus 8), .int (t_desks_size 8), .ref (q_t_desks 8), .int (t_desks_limit 8), .long (t_desks_tree 8)])), ((q_t_desks 8), .inl (cI, 8, .inl (a_t_desks 8)))] t.heap) (va_A [(h_t, .inr (0, [.ref h_t_desks, .int t_now, .int t_last])), (h_t_desks, .inl (cD, 9, .inr (.inr (.inr (.inr (fun i => some (d_t_desks i))))))), ((d_t_desks 0), .inr (1, [.int (t_desks_genus 0), .int (t_desks_size 0), .ref (q_t_desks 0), .int (t_desks_limit 0), .long (t_desks_tree 0)])), ((q_t_desks 0), .inl (cI, 8, .inl (a_t_desks 0))), ((d_t_desks 1), .inr (1, [.int (t_desks_genus 1), .int (t_desks_size 1), .ref (q_t_desks 1), .int (t_desks_limit 1), .long (t_desks_tree 1)])), ((q_t_desks 1), .inl (cI, 8, .inl (a_t_desks 1))), ((d_t_desks 2), .inr (1, [.int (t_desks_genus 2), .int (t_desks_size 2), .ref (q_t_desks 2), .int (t_desks_limit 2), .long (t_desks_tree 2)])), ((q_t_desks 2), .inl (cI, 8, .inl (a_t_desks 2))), ((d_t_desks 3), .inr (1, [.int (t_desks_genus 3), .int (t_desks_size 3), .ref (q_t_desks 3), .int (t_desks_limit 3), .long (t_desks_tree 3)])), ((q_t_desks 3), .inl (cI, 8, .inl (a_t_desks 3))), ((d_t_desks 4), .inr (1, [.int (t_desks_genus 4), .int (t_desks_size 4), .ref (q_t_desks 4), .int (t_desks_limit 4), .long (t_desks_tree 4)])), ((q_t_desks 4), .inl (cI, 8, .inl (a_t_desks 4))), ((d_t_desks 5), .inr (1, [.int (t_desks_genus 5), .int (t_desks_size 5), .ref (q_t_desks 5), .int (t_desks_limit 5), .long (t_desks_tree 5)])), ((q_t_desks 5), .inl (cI, 8, .inl (a_t_desks 5))), ((d_t_desks 6), .inr (1, [.int (t_desks_genus 6), .int (t_desks_size 6), .ref (q_t_desks 6), .int (t_desks_limit 6), .long (t_desks_tree 6)])), ((q_t_desks 6), .inl (cI, 8, .inl (a_t_desks 6))), ((d_t_desks 7), .inr (1, [.int (t_desks_genus 7), .int (t_desks_size 7), .ref (q_t_desks 7), .int (t_desks_limit 7), .long (t_desks_tree 7)])), ((q_t_desks 7), .inl (cI, 8, .inl (a_t_desks 7))), ((d_t_desks 8), .inr (1, [.int (t_desks_genus 8), .int (t_desks_size 8), .ref (q_t_desks 8), .int (t_desks_limit 8), .long (t_desks_tree 8)])), ((q_t_desks 8), .inl (cI, 8, .inl (a_t_desks 8)))] sz)) 0 0 (va_A [(h_t, .inr (0, [.ref h_t_desks, .int t_now, .int t_last])), (h_t_desks, .inl (cD, 9, .inr (.inr (.inr (.inr (fun i => some (d_t_desks i))))))), ((d_t_desks 0), .inr (1, [.int (t_desks_genus 0), .int (t_desks_size 0), .ref (q_t_desks 0), .int (t_desks_limit 0), .long (t_desks_tree 0)])), ((q_t_desks 0), .inl (cI, 8, .inl (a_t_desks 0))), ((d_t_desks 1), .inr (1, [.int (t_desks_genus 1), .int (t_desks_size 1), .ref (q_t_desks 1), .int (t_desks_limit 1), .long (t_desks_tree 1)])), ((q_t_desks 1), .inl (cI, 8, .inl (a_t_desks 1))), ((d_t_desks 2), .inr (1, [.int (t_desks_genus 2), .int (t_desks_size 2), .ref (q_t_desks 2), .int (t_desks_limit 2), .long (t_desks_tree 2)])), ((q_t_desks 2), .inl (cI, 8, .inl (a_t_desks 2))), ((d_t_desks 3), .inr (1, [.int (t_desks_genus 3), .int (t_desks_size 3), .ref (q_t_desks 3), .int (t_desks_limit 3), .long (t_desks_tree 3)])), ((q_t_desks 3), .inl (cI, 8, .inl (a_t_desks 3))), ((d_t_desks 4), .inr (1, [.int (t_desks_genus 4), .int (t_desks_size 4), .ref (q_t_desks 4), .int (t_desks_limit 4), .long (t_desks_tree 4)])), ((q_t_desks 4), .inl (cI, 8, .inl (a_t_desks 4))), ((d_t_desks 5), .inr (1, [.int (t_desks_genus 5), .int (t_desks_size 5), .ref (q_t_desks 5), .int (t_desks_limit 5), .long (t_desks_tree 5)])), ((q_t_desks 5), .inl (cI, 8, .inl (a_t_desks 5))), ((d_t_desks 6), .inr (1, [.int (t_desks_genus 6), .int (t_desks_size 6), .ref (q_t_desks 6), .int (t_desks_limit 6), .long (t_desks_tree 6)])), ((q_t_desks 6), .inl (cI, 8, .inl (a_t_desks 6))), ((d_t_desks 7), .inr (1, [.int (t_desks_genus 7), .int (t_desks_size 7), .ref (q_t_desks 7), .int (t_desks_limit 7), .long (t_desks_tree 7)])), ((q_t_desks 7), .inl (cI, 8, .inl (a_t_desks 7))), ((d_t_desks 8), .inr (1, [.int (t_desks_genus 8), .int (t_desks_size 8), .ref (q_t_desks 8), .int (t_desks_limit 8), .long (t_desks_tree 8)])), ((q_t_desks 8), .inl (cI, 8, .inl (a_t_desks 8)))] sz) := by
  refine Met.ofW (cc := cX0_present) (maxL := 1) (ret := (some (.object "MarkedCurves$Desk"))) (by decide) rfl ?_
  intro p e s m args below meth c s₁ B hml hv
  obtain ⟨rfl, hsz, hP, hK, hD0⟩ := hv
  have hx := B.exec
  have hb := B.bytes
  have hr := B.returns
  have hts := atoms_spec (ws := wsX0_present) B.pre
  have hta : ∀ w ∈ wA, w.before ([.ref h_t] : List Value).toArray s = true := hta_of hts
  have hown : s.vm.findClass RX0 = some m.cls := findClass_of_methodNamed B.named
  have hlocks := B.notSynchronized
  subst hsz
  have hD := hD0.self (sz := s.heap.size)
  generalize hAe : va_A [(h_t, .inr (0, [.ref h_t_desks, .int t_now, .int t_last])), (h_t_desks, .inl (cD, 9, .inr (.inr (.inr (.inr (fun i => some (d_t_desks i))))))), ((d_t_desks 0), .inr (1, [.int (t_desks_genus 0), .int (t_desks_size 0), .ref (q_t_desks 0), .int (t_desks_limit 0), .long (t_desks_tree 0)])), ((q_t_desks 0), .inl (cI, 8, .inl (a_t_desks 0))), ((d_t_desks 1), .inr (1, [.int (t_desks_genus 1), .int (t_desks_size 1), .ref (q_t_desks 1), .int (t_desks_limit 1), .long (t_desks_tree 1)])), ((q_t_desks 1), .inl (cI, 8, .inl (a_t_desks 1))), ((d_t_desks 2), .inr (1, [.int (t_desks_genus 2), .int (t_desks_size 2), .ref (q_t_desks 2), .int (t_desks_limit 2), .long (t_desks_tree 2)])), ((q_t_desks 2), .inl (cI, 8, .inl (a_t_desks 2))), ((d_t_desks 3), .inr (1, [.int (t_desks_genus 3), .int (t_desks_size 3), .ref (q_t_desks 3), .int (t_desks_limit 3), .long (t_desks_tree 3)])), ((q_t_desks 3), .inl (cI, 8, .inl (a_t_desks 3))), ((d_t_desks 4), .inr (1, [.int (t_desks_genus 4), .int (t_desks_size 4), .ref (q_t_desks 4), .int (t_desks_limit 4), .long (t_desks_tree 4)])), ((q_t_desks 4), .inl (cI, 8, .inl (a_t_desks 4))), ((d_t_desks 5), .inr (1, [.int (t_desks_genus 5), .int (t_desks_size 5), .ref (q_t_desks 5), .int (t_desks_limit 5), .long (t_desks_tree 5)])), ((q_t_desks 5), .inl (cI, 8, .inl (a_t_desks 5))), ((d_t_desks 6), .inr (1, [.int (t_desks_genus 6), .int (t_desks_size 6), .ref (q_t_desks 6), .int (t_desks_limit 6), .long (t_desks_tree 6)])), ((q_t_desks 6), .inl (cI, 8, .inl (a_t_desks 6))), ((d_t_desks 7), .inr (1, [.int (t_desks_genus 7), .int (t_desks_size 7), .ref (q_t_desks 7), .int (t_desks_limit 7), .long (t_desks_tree 7)])), ((q_t_desks 7), .inl (cI, 8, .inl (a_t_desks 7))), ((d_t_desks 8), .inr (1, [.int (t_desks_genus 8), .int (t_desks_size 8), .ref (q_t_desks 8), .int (t_desks_limit 8), .long (t_desks_tree 8)])), ((q_t_desks 8), .inl (cI, 8, .inl (a_t_desks 8)))] s.heap.size = A at hD ⊢
  have hA : ∀ q : Nat, s.heap.size ≤ q → A q := fun q h => by rw [← hAe]; exact Or.inr h
  have hS : va_S A s.heap s.heap [] := va_S.rf
  have hl := lv_entry ([.ref h_t]) (n := 1) (Nat.le_of_ble_eq_true rfl)
  rw [lg_entry_eq]
  generalize (lg_sl ([.ref h_t]) ++ List.replicate (1 - (lg_sl ([.ref h_t])).length) Slot.unset).toArray = ls at hl ⊢
  have hl : lv_has ls 1 [(0, .ref h_t)] := hl
  have hinX0 : ∀ w ∈ wsX00, w ∈ wsX0_present := hin_of in_X0
  have h := hF
  unfold F_X0_present at h
  refine lv_aload_n hx hb dX0_present_0 rfl (lv_at hl 0 rfl) ?_
  refine va_get (D := G) (ci := 0) (v := .int t_now) (C := RX0) (T := TX0) (N := 3) hx hb hts hinX0 hown hK hP 0 rfl rfl 1 (by decide) (hta _ mw_16) (fun _ h9 => h9) rfl dX0_present_1 ?_
  refine lv_if_lt (tgt := 28) hx hb dX0_present_4 (by decide) (fun c1 => ?_) (fun c1 => ?_)
  · have h := it_p h c1
    refine lv_aload_n hx hb dX0_present_28 rfl (lv_at hl 0 rfl) ?_
    refine va_get (D := G) (ci := 0) (v := .ref h_t_desks) (C := RX0) (T := TX0) (N := 3) hx hb hts hinX0 hown hK hP 0 rfl rfl 0 (by decide) (hta _ mw_5) (fun _ h9 => h9) rfl dX0_present_29 ?_
    refine lv_iconst (v := (0 : Int32)) hx hb dX0_present_32 (by decide) ?_
    refine va_aldq hx hb hK hP 1 2 rfl rfl (by unfold vp_in; decide) dX0_present_33 ?_
    refine W.eq (g2 := F0 m 34 ls [.ref (d_t_desks 0)]) rfl ?_
    have h9 := Option.some.inj h
    have e9 : 0 = r0 := congrArg (fun z9 => z9) h9
    rw [← e9]
    exact k_aret (ro := (some (d_t_desks 0))) hx hb hr (Or.inl ⟨_, rfl⟩) hlocks hP hS rfl dX0_present_34
  have h := it_n h c1
  refine lv_aload_n hx hb dX0_present_7 rfl (lv_at hl 0 rfl) ?_
  refine va_get (D := G) (ci := 0) (v := .int t_now) (C := RX0) (T := TX0) (N := 3) hx hb hts hinX0 hown hK hP 0 rfl rfl 1 (by decide) (hta _ mw_16) (fun _ h9 => h9) rfl dX0_present_8 ?_
  refine lv_bipush (v := (8 : Int32)) hx hb dX0_present_11 (by decide) ?_
  refine lv_icmp_gt (tgt := 28) hx hb dX0_present_13 (by decide) (fun c2 => ?_) (fun c2 => ?_)
  · have h := it_p h c2
    refine lv_aload_n hx hb dX0_present_28 rfl (lv_at hl 0 rfl) ?_
    refine va_get (D := G) (ci := 0) (v := .ref h_t_desks) (C := RX0) (T := TX0) (N := 3) hx hb hts hinX0 hown hK hP 0 rfl rfl 0 (by decide) (hta _ mw_5) (fun _ h9 => h9) rfl dX0_present_29 ?_
    refine lv_iconst (v := (0 : Int32)) hx hb dX0_present_32 (by decide) ?_
    refine va_aldq hx hb hK hP 1 2 rfl rfl (by unfold vp_in; decide) dX0_present_33 ?_
    refine W.eq (g2 := F0 m 34 ls [.ref (d_t_desks 0)]) rfl ?_
    have h9 := Option.some.inj h
    have e9 : 0 = r0 := congrArg (fun z9 => z9) h9
    rw [← e9]
    exact k_aret (ro := (some (d_t_desks 0))) hx hb hr (Or.inl ⟨_, rfl⟩) hlocks hP hS rfl dX0_present_34
  have h := it_n h c2
  refine lv_aload_n hx hb dX0_present_16 rfl (lv_at hl 0 rfl) ?_
  refine va_get (D := G) (ci := 0) (v := .ref h_t_desks) (C := RX0) (T := TX0) (N := 3) hx hb hts hinX0 hown hK hP 0 rfl rfl 0 (by decide) (hta _ mw_5) (fun _ h9 => h9) rfl dX0_present_17 ?_
  refine lv_aload_n hx hb dX0_present_20 rfl (lv_at hl 0 rfl) ?_
  refine va_get (D := G) (ci := 0) (v := .int t_now) (C := RX0) (T := TX0) (N := 3) hx hb hts hinX0 hown hK hP 0 rfl rfl 1 (by decide) (hta _ mw_16) (fun _ h9 => h9) rfl dX0_present_21 ?_
  obtain ⟨hn3, h⟩ := ck_e h
  refine va_aldq hx hb hK hP 1 2 rfl rfl hn3 dX0_present_24 ?_
  refine W.eq (g2 := F0 m 25 ls [.ref (d_t_desks t_now.toNatClampNeg)]) rfl ?_
  refine lv_goto (tgt := 34) hx hb dX0_present_25 (by decide) ?_
  have h9 := Option.some.inj h
  have e9 : t_now.toNatClampNeg = r0 := congrArg (fun z9 => z9) h9
  rw [← e9]
  exact k_aret (ro := (some (d_t_desks t_now.toNatClampNeg))) hx hb hr (Or.inl ⟨_, rfl⟩) hlocks hP hS rfl dX0_present_34
theorem k_lt_X0_present {t_now : Int32} {r : Nat} (h : F_X0_present t_now = some r) : r < 9 := by
  unfold F_X0_present at h
  split at h
  · cases h; decide
  · split at h
    · cases h; decide
    · obtain ⟨hn, h⟩ := ck_e h
      cases h; exact k_in_lt hn

/-! X0_dropOldest -/
set_option maxHeartbeats 40000000 in
set_option maxRecDepth 100000 in
theorem c_X0_dropOldest (l : Launch) (G : va_G) (cI cJ cD cH : ClassId) (sz : Nat) (h_t : Nat) (h_t_desks : Nat) (d_t_desks : Nat → Nat) (q_t_desks : Nat → Nat) (a_t_desks : Nat → Nat → Int32) (t_desks_genus : Nat → Int32) (t_desks_size : Nat → Int32) (t_desks_limit : Nat → Int32) (t_desks_tree : Nat → Int64) (t_now : Int32) (t_last : Int32) (w0 : Int32) (w1 : Nat → Nat → Int32) (w2 : Nat → Nat) (w3 : Nat → Int32) (w4 : Nat → Int32) (w5 : Nat → Nat) (w6 : Nat → Int32) (w7 : Nat → Int64) (hF : F_X0_dropOldest d_t_desks q_t_desks a_t_desks t_desks_genus t_desks_size t_desks_limit t_desks_tree t_now = some (w0, w1, w2, w3, w4, w5, w6, w7)) : Met l yX0_dropOldest wsX0_dropOldest ({ frames := 0, cells := 0, slots := 0, locals := 0 }) (k_pre G (k_T cI cJ cD cH) [(h_t, .inr (0, [.ref h_t_desks, .int t_now, .int t_last])), (h_t_desks, .inl (cD, 9, .inr (.inr (.inr (.inr (fun i => some (d_t_desks i))))))), ((d_t_desks 0), .inr (1, [.int (t_desks_genus 0), .int (t_desks_size 0), .ref (q_t_desks 0), .int (t_desks_limit 0), .long (t_desks_tree 0)])), ((q_t_desks 0), .inl (cI, 8, .inl (a_t_desks 0))), ((d_t_desks 1), .inr (1, [.int (t_desks_genus 1), .int (t_desks_size 1), .ref (q_t_desks 1), .int (t_desks_limit 1), .long (t_desks_tree 1)])), ((q_t_desks 1), .inl (cI, 8, .inl (a_t_desks 1))), ((d_t_desks 2), .inr (1, [.int (t_desks_genus 2), .int (t_desks_size 2), .ref (q_t_desks 2), .int (t_desks_limit 2), .long (t_desks_tree 2)])), ((q_t_desks 2), .inl (cI, 8, .inl (a_t_desks 2))), ((d_t_desks 3), .inr (1, [.int (t_desks_genus 3), .int (t_desks_size 3), .ref (q_t_desks 3), .int (t_desks_limit 3), .long (t_desks_tree 3)])), ((q_t_desks 3), .inl (cI, 8, .inl (a_t_desks 3))), ((d_t_desks 4), .inr (1, [.int (t_desks_genus 4), .int (t_desks_size 4), .ref (q_t_desks 4), .int (t_desks_limit 4), .long (t_desks_tree 4)])), ((q_t_desks 4), .inl (cI, 8, .inl (a_t_desks 4))), ((d_t_desks 5), .inr (1, [.int (t_desks_genus 5), .int (t_desks_size 5), .ref (q_t_desks 5), .int (t_desks_limit 5), .long (t_desks_tree 5)])), ((q_t_desks 5), .inl (cI, 8, .inl (a_t_desks 5))), ((d_t_desks 6), .inr (1, [.int (t_desks_genus 6), .int (t_desks_size 6), .ref (q_t_desks 6), .int (t_desks_limit 6), .long (t_desks_tree 6)])), ((q_t_desks 6), .inl (cI, 8, .inl (a_t_desks 6))), ((d_t_desks 7), .inr (1, [.int (t_desks_genus 7), .int (t_desks_size 7), .ref (q_t_desks 7), .int (t_desks_limit 7), .long (t_desks_tree 7)])), ((q_t_desks 7), .inl (cI, 8, .inl (a_t_desks 7))), ((d_t_desks 8), .inr (1, [.int (t_desks_genus 8), .int (t_desks_size 8), .ref (q_t_desks 8), .int (t_desks_limit 8), .long (t_desks_tree 8)])), ((q_t_desks 8), .inl (cI, 8, .inl (a_t_desks 8)))] sz [.ref h_t]) (va_Qv (fun (_ : Unit) => True) (fun _ t => va_P G vwCl [(h_t, .inr (0, [.ref h_t_desks, .int w0, .int t_last])), (h_t_desks, .inl (cD, 9, .inr (.inr (.inr (.inr (fun i => some (w2 i))))))), ((w2 0), .inr (1, [.int (w3 0), .int (w6 0), .ref (w5 0), .int (w4 0), .long (w7 0)])), ((w5 0), .inl (cI, 8, .inl (w1 0))), ((w2 1), .inr (1, [.int (w3 1), .int (w6 1), .ref (w5 1), .int (w4 1), .long (w7 1)])), ((w5 1), .inl (cI, 8, .inl (w1 1))), ((w2 2), .inr (1, [.int (w3 2), .int (w6 2), .ref (w5 2), .int (w4 2), .long (w7 2)])), ((w5 2), .inl (cI, 8, .inl (w1 2))), ((w2 3), .inr (1, [.int (w3 3), .int (w6 3), .ref (w5 3), .int (w4 3), .long (w7 3)])), ((w5 3), .inl (cI, 8, .inl (w1 3))), ((w2 4), .inr (1, [.int (w3 4), .int (w6 4), .ref (w5 4), .int (w4 4), .long (w7 4)])), ((w5 4), .inl (cI, 8, .inl (w1 4))), ((w2 5), .inr (1, [.int (w3 5), .int (w6 5), .ref (w5 5), .int (w4 5), .long (w7 5)])), ((w5 5), .inl (cI, 8, .inl (w1 5))), ((w2 6), .inr (1, [.int (w3 6), .int (w6 6), .ref (w5 6), .int (w4 6), .long (w7 6)])), ((w5 6), .inl (cI, 8, .inl (w1 6))), ((w2 7), .inr (1, [.int (w3 7), .int (w6 7), .ref (w5 7), .int (w4 7), .long (w7 7)])), ((w5 7), .inl (cI, 8, .inl (w1 7))), ((w2 8), .inr (1, [.int (w3 8), .int (w6 8), .ref (w5 8), .int (w4 8), .long (w7 8)])), ((w5 8), .inl (cI, 8, .inl (w1 8)))] t.heap ∧ va_D (va_A [(h_t, .inr (0, [.ref h_t_desks, .int t_now, .int t_last])), (h_t_desks, .inl (cD, 9, .inr (.inr (.inr (.inr (fun i => some (d_t_desks i))))))), ((d_t_desks 0), .inr (1, [.int (t_desks_genus 0), .int (t_desks_size 0), .ref (q_t_desks 0), .int (t_desks_limit 0), .long (t_desks_tree 0)])), ((q_t_desks 0), .inl (cI, 8, .inl (a_t_desks 0))), ((d_t_desks 1), .inr (1, [.int (t_desks_genus 1), .int (t_desks_size 1), .ref (q_t_desks 1), .int (t_desks_limit 1), .long (t_desks_tree 1)])), ((q_t_desks 1), .inl (cI, 8, .inl (a_t_desks 1))), ((d_t_desks 2), .inr (1, [.int (t_desks_genus 2), .int (t_desks_size 2), .ref (q_t_desks 2), .int (t_desks_limit 2), .long (t_desks_tree 2)])), ((q_t_desks 2), .inl (cI, 8, .inl (a_t_desks 2))), ((d_t_desks 3), .inr (1, [.int (t_desks_genus 3), .int (t_desks_size 3), .ref (q_t_desks 3), .int (t_desks_limit 3), .long (t_desks_tree 3)])), ((q_t_desks 3), .inl (cI, 8, .inl (a_t_desks 3))), ((d_t_desks 4), .inr (1, [.int (t_desks_genus 4), .int (t_desks_size 4), .ref (q_t_desks 4), .int (t_desks_limit 4), .long (t_desks_tree 4)])), ((q_t_desks 4), .inl (cI, 8, .inl (a_t_desks 4))), ((d_t_desks 5), .inr (1, [.int (t_desks_genus 5), .int (t_desks_size 5), .ref (q_t_desks 5), .int (t_desks_limit 5), .long (t_desks_tree 5)])), ((q_t_desks 5), .inl (cI, 8, .inl (a_t_desks 5))), ((d_t_desks 6), .inr (1, [.int (t_desks_genus 6), .int (t_desks_size 6), .ref (q_t_desks 6), .int (t_desks_limit 6), .long (t_desks_tree 6)])), ((q_t_desks 6), .inl (cI, 8, .inl (a_t_desks 6))), ((d_t_desks 7), .inr (1, [.int (t_desks_genus 7), .int (t_desks_size 7), .ref (q_t_desks 7), .int (t_desks_limit 7), .long (t_desks_tree 7)])), ((q_t_desks 7), .inl (cI, 8, .inl (a_t_desks 7))), ((d_t_desks 8), .inr (1, [.int (t_desks_genus 8), .int (t_desks_size 8), .ref (q_t_desks 8), .int (t_desks_limit 8), .long (t_desks_tree 8)])), ((q_t_desks 8), .inl (cI, 8, .inl (a_t_desks 8)))] sz) [(h_t, .inr (0, [.ref h_t_desks, .int w0, .int t_last])), (h_t_desks, .inl (cD, 9, .inr (.inr (.inr (.inr (fun i => some (w2 i))))))), ((w2 0), .inr (1, [.int (w3 0), .int (w6 0), .ref (w5 0), .int (w4 0), .long (w7 0)])), ((w5 0), .inl (cI, 8, .inl (w1 0))), ((w2 1), .inr (1, [.int (w3 1), .int (w6 1), .ref (w5 1), .int (w4 1), .long (w7 1)])), ((w5 1), .inl (cI, 8, .inl (w1 1))), ((w2 2), .inr (1, [.int (w3 2), .int (w6 2), .ref (w5 2), .int (w4 2), .long (w7 2)])), ((w5 2), .inl (cI, 8, .inl (w1 2))), ((w2 3), .inr (1, [.int (w3 3), .int (w6 3), .ref (w5 3), .int (w4 3), .long (w7 3)])), ((w5 3), .inl (cI, 8, .inl (w1 3))), ((w2 4), .inr (1, [.int (w3 4), .int (w6 4), .ref (w5 4), .int (w4 4), .long (w7 4)])), ((w5 4), .inl (cI, 8, .inl (w1 4))), ((w2 5), .inr (1, [.int (w3 5), .int (w6 5), .ref (w5 5), .int (w4 5), .long (w7 5)])), ((w5 5), .inl (cI, 8, .inl (w1 5))), ((w2 6), .inr (1, [.int (w3 6), .int (w6 6), .ref (w5 6), .int (w4 6), .long (w7 6)])), ((w5 6), .inl (cI, 8, .inl (w1 6))), ((w2 7), .inr (1, [.int (w3 7), .int (w6 7), .ref (w5 7), .int (w4 7), .long (w7 7)])), ((w5 7), .inl (cI, 8, .inl (w1 7))), ((w2 8), .inr (1, [.int (w3 8), .int (w6 8), .ref (w5 8), .int (w4 8), .long (w7 8)])), ((w5 8), .inl (cI, 8, .inl (w1 8)))]) (va_A [(h_t, .inr (0, [.ref h_t_desks, .int t_now, .int t_last])), (h_t_desks, .inl (cD, 9, .inr (.inr (.inr (.inr (fun i => some (d_t_desks i))))))), ((d_t_desks 0), .inr (1, [.int (t_desks_genus 0), .int (t_desks_size 0), .ref (q_t_desks 0), .int (t_desks_limit 0), .long (t_desks_tree 0)])), ((q_t_desks 0), .inl (cI, 8, .inl (a_t_desks 0))), ((d_t_desks 1), .inr (1, [.int (t_desks_genus 1), .int (t_desks_size 1), .ref (q_t_desks 1), .int (t_desks_limit 1), .long (t_desks_tree 1)])), ((q_t_desks 1), .inl (cI, 8, .inl (a_t_desks 1))), ((d_t_desks 2), .inr (1, [.int (t_desks_genus 2), .int (t_desks_size 2), .ref (q_t_desks 2), .int (t_desks_limit 2), .long (t_desks_tree 2)])), ((q_t_desks 2), .inl (cI, 8, .inl (a_t_desks 2))), ((d_t_desks 3), .inr (1, [.int (t_desks_genus 3), .int (t_desks_size 3), .ref (q_t_desks 3), .int (t_desks_limit 3), .long (t_desks_tree 3)])), ((q_t_desks 3), .inl (cI, 8, .inl (a_t_desks 3))), ((d_t_desks 4), .inr (1, [.int (t_desks_genus 4), .int (t_desks_size 4), .ref (q_t_desks 4), .int (t_desks_limit 4), .long (t_desks_tree 4)])), ((q_t_desks 4), .inl (cI, 8, .inl (a_t_desks 4))), ((d_t_desks 5), .inr (1, [.int (t_desks_genus 5), .int (t_desks_size 5), .ref (q_t_desks 5), .int (t_desks_limit 5), .long (t_desks_tree 5)])), ((q_t_desks 5), .inl (cI, 8, .inl (a_t_desks 5))), ((d_t_desks 6), .inr (1, [.int (t_desks_genus 6), .int (t_desks_size 6), .ref (q_t_desks 6), .int (t_desks_limit 6), .long (t_desks_tree 6)])), ((q_t_desks 6), .inl (cI, 8, .inl (a_t_desks 6))), ((d_t_desks 7), .inr (1, [.int (t_desks_genus 7), .int (t_desks_size 7), .ref (q_t_desks 7), .int (t_desks_limit 7), .long (t_desks_tree 7)])), ((q_t_desks 7), .inl (cI, 8, .inl (a_t_desks 7))), ((d_t_desks 8), .inr (1, [.int (t_desks_genus 8), .int (t_desks_size 8), .ref (q_t_desks 8), .int (t_desks_limit 8), .long (t_desks_tree 8)])), ((q_t_desks 8), .inl (cI, 8, .inl (a_t_desks 8)))] sz)) 0 0 (va_A [(h_t, .inr (0, [.ref h_t_desks, .int t_now, .int t_last])), (h_t_desks, .inl (cD, 9, .inr (.inr (.inr (.inr (fun i => some (d_t_desks i))))))), ((d_t_desks 0), .inr (1, [.int (t_desks_genus 0), .int (t_desks_size 0), .ref (q_t_desks 0), .int (t_desks_limit 0), .long (t_desks_tree 0)])), ((q_t_desks 0), .inl (cI, 8, .inl (a_t_desks 0))), ((d_t_desks 1), .inr (1, [.int (t_desks_genus 1), .int (t_desks_size 1), .ref (q_t_desks 1), .int (t_desks_limit 1), .long (t_desks_tree 1)])), ((q_t_desks 1), .inl (cI, 8, .inl (a_t_desks 1))), ((d_t_desks 2), .inr (1, [.int (t_desks_genus 2), .int (t_desks_size 2), .ref (q_t_desks 2), .int (t_desks_limit 2), .long (t_desks_tree 2)])), ((q_t_desks 2), .inl (cI, 8, .inl (a_t_desks 2))), ((d_t_desks 3), .inr (1, [.int (t_desks_genus 3), .int (t_desks_size 3), .ref (q_t_desks 3), .int (t_desks_limit 3), .long (t_desks_tree 3)])), ((q_t_desks 3), .inl (cI, 8, .inl (a_t_desks 3))), ((d_t_desks 4), .inr (1, [.int (t_desks_genus 4), .int (t_desks_size 4), .ref (q_t_desks 4), .int (t_desks_limit 4), .long (t_desks_tree 4)])), ((q_t_desks 4), .inl (cI, 8, .inl (a_t_desks 4))), ((d_t_desks 5), .inr (1, [.int (t_desks_genus 5), .int (t_desks_size 5), .ref (q_t_desks 5), .int (t_desks_limit 5), .long (t_desks_tree 5)])), ((q_t_desks 5), .inl (cI, 8, .inl (a_t_desks 5))), ((d_t_desks 6), .inr (1, [.int (t_desks_genus 6), .int (t_desks_size 6), .ref (q_t_desks 6), .int (t_desks_limit 6), .long (t_desks_tree 6)])), ((q_t_desks 6), .inl (cI, 8, .inl (a_t_desks 6))), ((d_t_desks 7), .inr (1, [.int (t_desks_genus 7), .int (t_desks_size 7), .ref (q_t_desks 7), .int (t_desks_limit 7), .long (t_desks_tree 7)])), ((q_t_desks 7), .inl (cI, 8, .inl (a_t_desks 7))), ((d_t_desks 8), .inr (1, [.int (t_desks_genus 8), .int (t_desks_size 8), .ref (q_t_desks 8), .int (t_desks_limit 8), .long (t_desks_tree 8)])), ((q_t_desks 8), .inl (cI, 8, .inl (a_t_desks 8)))] sz) := by
  refine Met.ofW (cc := cX0_dropOldest) (maxL := 3) (ret := none) (by decide) rfl ?_
  intro p e s m args below meth c s₁ B hml hv
  obtain ⟨rfl, hsz, hP, hK, hD0⟩ := hv
  have hx := B.exec
  have hb := B.bytes
  have hr := B.returns
  have hts := atoms_spec (ws := wsX0_dropOldest) B.pre
  have hta : ∀ w ∈ wA, w.before ([.ref h_t] : List Value).toArray s = true := hta_of hts
  have hown : s.vm.findClass RX0 = some m.cls := findClass_of_methodNamed B.named
  have hlocks := B.notSynchronized
  subst hsz
  have hD := hD0.self (sz := s.heap.size)
  generalize hAe : va_A [(h_t, .inr (0, [.ref h_t_desks, .int t_now, .int t_last])), (h_t_desks, .inl (cD, 9, .inr (.inr (.inr (.inr (fun i => some (d_t_desks i))))))), ((d_t_desks 0), .inr (1, [.int (t_desks_genus 0), .int (t_desks_size 0), .ref (q_t_desks 0), .int (t_desks_limit 0), .long (t_desks_tree 0)])), ((q_t_desks 0), .inl (cI, 8, .inl (a_t_desks 0))), ((d_t_desks 1), .inr (1, [.int (t_desks_genus 1), .int (t_desks_size 1), .ref (q_t_desks 1), .int (t_desks_limit 1), .long (t_desks_tree 1)])), ((q_t_desks 1), .inl (cI, 8, .inl (a_t_desks 1))), ((d_t_desks 2), .inr (1, [.int (t_desks_genus 2), .int (t_desks_size 2), .ref (q_t_desks 2), .int (t_desks_limit 2), .long (t_desks_tree 2)])), ((q_t_desks 2), .inl (cI, 8, .inl (a_t_desks 2))), ((d_t_desks 3), .inr (1, [.int (t_desks_genus 3), .int (t_desks_size 3), .ref (q_t_desks 3), .int (t_desks_limit 3), .long (t_desks_tree 3)])), ((q_t_desks 3), .inl (cI, 8, .inl (a_t_desks 3))), ((d_t_desks 4), .inr (1, [.int (t_desks_genus 4), .int (t_desks_size 4), .ref (q_t_desks 4), .int (t_desks_limit 4), .long (t_desks_tree 4)])), ((q_t_desks 4), .inl (cI, 8, .inl (a_t_desks 4))), ((d_t_desks 5), .inr (1, [.int (t_desks_genus 5), .int (t_desks_size 5), .ref (q_t_desks 5), .int (t_desks_limit 5), .long (t_desks_tree 5)])), ((q_t_desks 5), .inl (cI, 8, .inl (a_t_desks 5))), ((d_t_desks 6), .inr (1, [.int (t_desks_genus 6), .int (t_desks_size 6), .ref (q_t_desks 6), .int (t_desks_limit 6), .long (t_desks_tree 6)])), ((q_t_desks 6), .inl (cI, 8, .inl (a_t_desks 6))), ((d_t_desks 7), .inr (1, [.int (t_desks_genus 7), .int (t_desks_size 7), .ref (q_t_desks 7), .int (t_desks_limit 7), .long (t_desks_tree 7)])), ((q_t_desks 7), .inl (cI, 8, .inl (a_t_desks 7))), ((d_t_desks 8), .inr (1, [.int (t_desks_genus 8), .int (t_desks_size 8), .ref (q_t_desks 8), .int (t_desks_limit 8), .long (t_desks_tree 8)])), ((q_t_desks 8), .inl (cI, 8, .inl (a_t_desks 8)))] s.heap.size = A at hD ⊢
  have hA : ∀ q : Nat, s.heap.size ≤ q → A q := fun q h => by rw [← hAe]; exact Or.inr h
  have hS : va_S A s.heap s.heap [] := va_S.rf
  have hl := lv_entry ([.ref h_t]) (n := 3) (Nat.le_of_ble_eq_true rfl)
  rw [lg_entry_eq]
  generalize (lg_sl ([.ref h_t]) ++ List.replicate (3 - (lg_sl ([.ref h_t])).length) Slot.unset).toArray = ls at hl ⊢
  have hl : lv_has ls 3 [(0, .ref h_t)] := hl
  have hinX0 : ∀ w ∈ wsX00, w ∈ wsX0_dropOldest := hin_of in_X0
  have h := hF
  unfold F_X0_dropOldest at h
  refine lv_aload_n hx hb dX0_dropOldest_0 rfl (lv_at hl 0 rfl) ?_
  refine va_get (D := G) (ci := 0) (v := .ref h_t_desks) (C := RX0) (T := TX0) (N := 3) hx hb hts hinX0 hown hK hP 0 rfl rfl 0 (by decide) (hta _ mw_5) (fun _ h9 => h9) rfl dX0_dropOldest_1 ?_
  refine lv_iconst (v := (0 : Int32)) hx hb dX0_dropOldest_4 (by decide) ?_
  refine va_aldq hx hb hK hP 1 2 rfl rfl (by unfold vp_in; decide) dX0_dropOldest_5 ?_
  refine W.eq (g2 := F0 m 6 ls [.ref (d_t_desks 0)]) rfl ?_
  refine lv_astore_n (lv' := [(1, .ref (d_t_desks 0)), (0, .ref h_t)]) hx hb dX0_dropOldest_6 rfl hl (by decide) rfl (fun ls hl => ?_)
  refine lv_iconst (v := (0 : Int32)) hx hb dX0_dropOldest_7 (by decide) ?_
  refine lv_istore_n (lv' := [(2, .int (0 : Int32)), (1, .ref (d_t_desks 0)), (0, .ref h_t)]) hx hb dX0_dropOldest_8 rfl hl (by decide) rfl (fun ls hl => ?_)
  refine lv_iload_n hx hb dX0_dropOldest_9 rfl (lv_at hl 0 rfl) ?_
  refine lv_bipush (v := (8 : Int32)) hx hb dX0_dropOldest_10 (by decide) ?_
  refine lv_icmp_ge (tgt := 35) hx hb dX0_dropOldest_12 (by decide) (fun c9 => absurd c9 (by decide)) (fun _ => ?_)
  refine lv_aload_n hx hb dX0_dropOldest_15 rfl (lv_at hl 2 rfl) ?_
  refine va_get (D := G) (ci := 0) (v := .ref h_t_desks) (C := RX0) (T := TX0) (N := 3) hx hb hts hinX0 hown hK hP 0 rfl rfl 0 (by decide) (hta _ mw_5) (fun _ h9 => h9) rfl dX0_dropOldest_16 ?_
  refine lv_iload_n hx hb dX0_dropOldest_19 rfl (lv_at hl 0 rfl) ?_
  refine lv_aload_n hx hb dX0_dropOldest_20 rfl (lv_at hl 2 rfl) ?_
  refine va_get (D := G) (ci := 0) (v := .ref h_t_desks) (C := RX0) (T := TX0) (N := 3) hx hb hts hinX0 hown hK hP 0 rfl rfl 0 (by decide) (hta _ mw_5) (fun _ h9 => h9) rfl dX0_dropOldest_21 ?_
  refine lv_iload_n hx hb dX0_dropOldest_24 rfl (lv_at hl 0 rfl) ?_
  refine lv_iconst (v := (1 : Int32)) hx hb dX0_dropOldest_25 (by decide) ?_
  refine lv_iadd hx hb dX0_dropOldest_26 ?_
  refine va_aldq hx hb hK hP 1 2 rfl rfl (by unfold vp_in; decide) dX0_dropOldest_27 ?_
  refine W.eq (g2 := F0 m 28 ls [.ref (d_t_desks 1), .int (0 : Int32), .ref h_t_desks]) rfl ?_
  refine va_astq hx hb hK hP hD hS 1 2 4 1 rfl rfl rfl rfl (by unfold vp_in; decide) dX0_dropOldest_28 (fun H locs hP hD hS => ?_)
  rw [k_upf] at hP hD
  have hP : va_P G vwCl [(h_t, .inr (0, [.ref h_t_desks, .int t_now, .int t_last])), (h_t_desks, .inl (cD, 9, .inr (.inr (.inr (.inr (fun i => some ((va_up d_t_desks 0 (d_t_desks 1)) i))))))), ((d_t_desks 0), .inr (1, [.int (t_desks_genus 0), .int (t_desks_size 0), .ref (q_t_desks 0), .int (t_desks_limit 0), .long (t_desks_tree 0)])), ((q_t_desks 0), .inl (cI, 8, .inl (a_t_desks 0))), ((d_t_desks 1), .inr (1, [.int (t_desks_genus 1), .int (t_desks_size 1), .ref (q_t_desks 1), .int (t_desks_limit 1), .long (t_desks_tree 1)])), ((q_t_desks 1), .inl (cI, 8, .inl (a_t_desks 1))), ((d_t_desks 2), .inr (1, [.int (t_desks_genus 2), .int (t_desks_size 2), .ref (q_t_desks 2), .int (t_desks_limit 2), .long (t_desks_tree 2)])), ((q_t_desks 2), .inl (cI, 8, .inl (a_t_desks 2))), ((d_t_desks 3), .inr (1, [.int (t_desks_genus 3), .int (t_desks_size 3), .ref (q_t_desks 3), .int (t_desks_limit 3), .long (t_desks_tree 3)])), ((q_t_desks 3), .inl (cI, 8, .inl (a_t_desks 3))), ((d_t_desks 4), .inr (1, [.int (t_desks_genus 4), .int (t_desks_size 4), .ref (q_t_desks 4), .int (t_desks_limit 4), .long (t_desks_tree 4)])), ((q_t_desks 4), .inl (cI, 8, .inl (a_t_desks 4))), ((d_t_desks 5), .inr (1, [.int (t_desks_genus 5), .int (t_desks_size 5), .ref (q_t_desks 5), .int (t_desks_limit 5), .long (t_desks_tree 5)])), ((q_t_desks 5), .inl (cI, 8, .inl (a_t_desks 5))), ((d_t_desks 6), .inr (1, [.int (t_desks_genus 6), .int (t_desks_size 6), .ref (q_t_desks 6), .int (t_desks_limit 6), .long (t_desks_tree 6)])), ((q_t_desks 6), .inl (cI, 8, .inl (a_t_desks 6))), ((d_t_desks 7), .inr (1, [.int (t_desks_genus 7), .int (t_desks_size 7), .ref (q_t_desks 7), .int (t_desks_limit 7), .long (t_desks_tree 7)])), ((q_t_desks 7), .inl (cI, 8, .inl (a_t_desks 7))), ((d_t_desks 8), .inr (1, [.int (t_desks_genus 8), .int (t_desks_size 8), .ref (q_t_desks 8), .int (t_desks_limit 8), .long (t_desks_tree 8)])), ((q_t_desks 8), .inl (cI, 8, .inl (a_t_desks 8)))] H := hP
  have hD : va_D A [(h_t, .inr (0, [.ref h_t_desks, .int t_now, .int t_last])), (h_t_desks, .inl (cD, 9, .inr (.inr (.inr (.inr (fun i => some ((va_up d_t_desks 0 (d_t_desks 1)) i))))))), ((d_t_desks 0), .inr (1, [.int (t_desks_genus 0), .int (t_desks_size 0), .ref (q_t_desks 0), .int (t_desks_limit 0), .long (t_desks_tree 0)])), ((q_t_desks 0), .inl (cI, 8, .inl (a_t_desks 0))), ((d_t_desks 1), .inr (1, [.int (t_desks_genus 1), .int (t_desks_size 1), .ref (q_t_desks 1), .int (t_desks_limit 1), .long (t_desks_tree 1)])), ((q_t_desks 1), .inl (cI, 8, .inl (a_t_desks 1))), ((d_t_desks 2), .inr (1, [.int (t_desks_genus 2), .int (t_desks_size 2), .ref (q_t_desks 2), .int (t_desks_limit 2), .long (t_desks_tree 2)])), ((q_t_desks 2), .inl (cI, 8, .inl (a_t_desks 2))), ((d_t_desks 3), .inr (1, [.int (t_desks_genus 3), .int (t_desks_size 3), .ref (q_t_desks 3), .int (t_desks_limit 3), .long (t_desks_tree 3)])), ((q_t_desks 3), .inl (cI, 8, .inl (a_t_desks 3))), ((d_t_desks 4), .inr (1, [.int (t_desks_genus 4), .int (t_desks_size 4), .ref (q_t_desks 4), .int (t_desks_limit 4), .long (t_desks_tree 4)])), ((q_t_desks 4), .inl (cI, 8, .inl (a_t_desks 4))), ((d_t_desks 5), .inr (1, [.int (t_desks_genus 5), .int (t_desks_size 5), .ref (q_t_desks 5), .int (t_desks_limit 5), .long (t_desks_tree 5)])), ((q_t_desks 5), .inl (cI, 8, .inl (a_t_desks 5))), ((d_t_desks 6), .inr (1, [.int (t_desks_genus 6), .int (t_desks_size 6), .ref (q_t_desks 6), .int (t_desks_limit 6), .long (t_desks_tree 6)])), ((q_t_desks 6), .inl (cI, 8, .inl (a_t_desks 6))), ((d_t_desks 7), .inr (1, [.int (t_desks_genus 7), .int (t_desks_size 7), .ref (q_t_desks 7), .int (t_desks_limit 7), .long (t_desks_tree 7)])), ((q_t_desks 7), .inl (cI, 8, .inl (a_t_desks 7))), ((d_t_desks 8), .inr (1, [.int (t_desks_genus 8), .int (t_desks_size 8), .ref (q_t_desks 8), .int (t_desks_limit 8), .long (t_desks_tree 8)])), ((q_t_desks 8), .inl (cI, 8, .inl (a_t_desks 8)))] := hD
  refine lv_iinc (v := (1 : Int32)) (lv' := [(2, .int (1 : Int32)), (1, .ref (d_t_desks 0)), (0, .ref h_t)]) hx hb dX0_dropOldest_29 hl (k := 0) rfl (by first | rfl | decide) (by decide) rfl (fun ls hl => ?_)
  refine lv_goto (tgt := 9) hx hb dX0_dropOldest_32 (by decide) ?_
  refine lv_iload_n hx hb dX0_dropOldest_9 rfl (lv_at hl 0 rfl) ?_
  refine lv_bipush (v := (8 : Int32)) hx hb dX0_dropOldest_10 (by decide) ?_
  refine lv_icmp_ge (tgt := 35) hx hb dX0_dropOldest_12 (by decide) (fun c9 => absurd c9 (by decide)) (fun _ => ?_)
  refine lv_aload_n hx hb dX0_dropOldest_15 rfl (lv_at hl 2 rfl) ?_
  refine va_get (D := G) (ci := 0) (v := .ref h_t_desks) (C := RX0) (T := TX0) (N := 3) hx hb hts hinX0 hown hK hP 0 rfl rfl 0 (by decide) (hta _ mw_5) (fun _ h9 => h9) rfl dX0_dropOldest_16 ?_
  refine lv_iload_n hx hb dX0_dropOldest_19 rfl (lv_at hl 0 rfl) ?_
  refine lv_aload_n hx hb dX0_dropOldest_20 rfl (lv_at hl 2 rfl) ?_
  refine va_get (D := G) (ci := 0) (v := .ref h_t_desks) (C := RX0) (T := TX0) (N := 3) hx hb hts hinX0 hown hK hP 0 rfl rfl 0 (by decide) (hta _ mw_5) (fun _ h9 => h9) rfl dX0_dropOldest_21 ?_
  refine lv_iload_n hx hb dX0_dropOldest_24 rfl (lv_at hl 0 rfl) ?_
  refine lv_iconst (v := (1 : Int32)) hx hb dX0_dropOldest_25 (by decide) ?_
  refine lv_iadd hx hb dX0_dropOldest_26 ?_
  refine va_aldq hx hb hK hP 1 2 rfl rfl (by unfold vp_in; decide) dX0_dropOldest_27 ?_
  refine W.eq (g2 := F0 m 28 ls [.ref (d_t_desks 2), .int (1 : Int32), .ref h_t_desks]) rfl ?_
  refine va_astq hx hb hK hP hD hS 1 2 6 1 rfl rfl rfl rfl (by unfold vp_in; decide) dX0_dropOldest_28 (fun H locs hP hD hS => ?_)
  rw [k_upf] at hP hD
  have hP : va_P G vwCl [(h_t, .inr (0, [.ref h_t_desks, .int t_now, .int t_last])), (h_t_desks, .inl (cD, 9, .inr (.inr (.inr (.inr (fun i => some ((va_up (va_up d_t_desks 0 (d_t_desks 1)) 1 (d_t_desks 2)) i))))))), ((d_t_desks 0), .inr (1, [.int (t_desks_genus 0), .int (t_desks_size 0), .ref (q_t_desks 0), .int (t_desks_limit 0), .long (t_desks_tree 0)])), ((q_t_desks 0), .inl (cI, 8, .inl (a_t_desks 0))), ((d_t_desks 1), .inr (1, [.int (t_desks_genus 1), .int (t_desks_size 1), .ref (q_t_desks 1), .int (t_desks_limit 1), .long (t_desks_tree 1)])), ((q_t_desks 1), .inl (cI, 8, .inl (a_t_desks 1))), ((d_t_desks 2), .inr (1, [.int (t_desks_genus 2), .int (t_desks_size 2), .ref (q_t_desks 2), .int (t_desks_limit 2), .long (t_desks_tree 2)])), ((q_t_desks 2), .inl (cI, 8, .inl (a_t_desks 2))), ((d_t_desks 3), .inr (1, [.int (t_desks_genus 3), .int (t_desks_size 3), .ref (q_t_desks 3), .int (t_desks_limit 3), .long (t_desks_tree 3)])), ((q_t_desks 3), .inl (cI, 8, .inl (a_t_desks 3))), ((d_t_desks 4), .inr (1, [.int (t_desks_genus 4), .int (t_desks_size 4), .ref (q_t_desks 4), .int (t_desks_limit 4), .long (t_desks_tree 4)])), ((q_t_desks 4), .inl (cI, 8, .inl (a_t_desks 4))), ((d_t_desks 5), .inr (1, [.int (t_desks_genus 5), .int (t_desks_size 5), .ref (q_t_desks 5), .int (t_desks_limit 5), .long (t_desks_tree 5)])), ((q_t_desks 5), .inl (cI, 8, .inl (a_t_desks 5))), ((d_t_desks 6), .inr (1, [.int (t_desks_genus 6), .int (t_desks_size 6), .ref (q_t_desks 6), .int (t_desks_limit 6), .long (t_desks_tree 6)])), ((q_t_desks 6), .inl (cI, 8, .inl (a_t_desks 6))), ((d_t_desks 7), .inr (1, [.int (t_desks_genus 7), .int (t_desks_size 7), .ref (q_t_desks 7), .int (t_desks_limit 7), .long (t_desks_tree 7)])), ((q_t_desks 7), .inl (cI, 8, .inl (a_t_desks 7))), ((d_t_desks 8), .inr (1, [.int (t_desks_genus 8), .int (t_desks_size 8), .ref (q_t_desks 8), .int (t_desks_limit 8), .long (t_desks_tree 8)])), ((q_t_desks 8), .inl (cI, 8, .inl (a_t_desks 8)))] H := hP
  have hD : va_D A [(h_t, .inr (0, [.ref h_t_desks, .int t_now, .int t_last])), (h_t_desks, .inl (cD, 9, .inr (.inr (.inr (.inr (fun i => some ((va_up (va_up d_t_desks 0 (d_t_desks 1)) 1 (d_t_desks 2)) i))))))), ((d_t_desks 0), .inr (1, [.int (t_desks_genus 0), .int (t_desks_size 0), .ref (q_t_desks 0), .int (t_desks_limit 0), .long (t_desks_tree 0)])), ((q_t_desks 0), .inl (cI, 8, .inl (a_t_desks 0))), ((d_t_desks 1), .inr (1, [.int (t_desks_genus 1), .int (t_desks_size 1), .ref (q_t_desks 1), .int (t_desks_limit 1), .long (t_desks_tree 1)])), ((q_t_desks 1), .inl (cI, 8, .inl (a_t_desks 1))), ((d_t_desks 2), .inr (1, [.int (t_desks_genus 2), .int (t_desks_size 2), .ref (q_t_desks 2), .int (t_desks_limit 2), .long (t_desks_tree 2)])), ((q_t_desks 2), .inl (cI, 8, .inl (a_t_desks 2))), ((d_t_desks 3), .inr (1, [.int (t_desks_genus 3), .int (t_desks_size 3), .ref (q_t_desks 3), .int (t_desks_limit 3), .long (t_desks_tree 3)])), ((q_t_desks 3), .inl (cI, 8, .inl (a_t_desks 3))), ((d_t_desks 4), .inr (1, [.int (t_desks_genus 4), .int (t_desks_size 4), .ref (q_t_desks 4), .int (t_desks_limit 4), .long (t_desks_tree 4)])), ((q_t_desks 4), .inl (cI, 8, .inl (a_t_desks 4))), ((d_t_desks 5), .inr (1, [.int (t_desks_genus 5), .int (t_desks_size 5), .ref (q_t_desks 5), .int (t_desks_limit 5), .long (t_desks_tree 5)])), ((q_t_desks 5), .inl (cI, 8, .inl (a_t_desks 5))), ((d_t_desks 6), .inr (1, [.int (t_desks_genus 6), .int (t_desks_size 6), .ref (q_t_desks 6), .int (t_desks_limit 6), .long (t_desks_tree 6)])), ((q_t_desks 6), .inl (cI, 8, .inl (a_t_desks 6))), ((d_t_desks 7), .inr (1, [.int (t_desks_genus 7), .int (t_desks_size 7), .ref (q_t_desks 7), .int (t_desks_limit 7), .long (t_desks_tree 7)])), ((q_t_desks 7), .inl (cI, 8, .inl (a_t_desks 7))), ((d_t_desks 8), .inr (1, [.int (t_desks_genus 8), .int (t_desks_size 8), .ref (q_t_desks 8), .int (t_desks_limit 8), .long (t_desks_tree 8)])), ((q_t_desks 8), .inl (cI, 8, .inl (a_t_desks 8)))] := hD
  refine lv_iinc (v := (2 : Int32)) (lv' := [(2, .int (2 : Int32)), (1, .ref (d_t_desks 0)), (0, .ref h_t)]) hx hb dX0_dropOldest_29 hl (k := 0) rfl (by first | rfl | decide) (by decide) rfl (fun ls hl => ?_)
  refine lv_goto (tgt := 9) hx hb dX0_dropOldest_32 (by decide) ?_
  refine lv_iload_n hx hb dX0_dropOldest_9 rfl (lv_at hl 0 rfl) ?_
  refine lv_bipush (v := (8 : Int32)) hx hb dX0_dropOldest_10 (by decide) ?_
  refine lv_icmp_ge (tgt := 35) hx hb dX0_dropOldest_12 (by decide) (fun c9 => absurd c9 (by decide)) (fun _ => ?_)
  refine lv_aload_n hx hb dX0_dropOldest_15 rfl (lv_at hl 2 rfl) ?_
  refine va_get (D := G) (ci := 0) (v := .ref h_t_desks) (C := RX0) (T := TX0) (N := 3) hx hb hts hinX0 hown hK hP 0 rfl rfl 0 (by decide) (hta _ mw_5) (fun _ h9 => h9) rfl dX0_dropOldest_16 ?_
  refine lv_iload_n hx hb dX0_dropOldest_19 rfl (lv_at hl 0 rfl) ?_
  refine lv_aload_n hx hb dX0_dropOldest_20 rfl (lv_at hl 2 rfl) ?_
  refine va_get (D := G) (ci := 0) (v := .ref h_t_desks) (C := RX0) (T := TX0) (N := 3) hx hb hts hinX0 hown hK hP 0 rfl rfl 0 (by decide) (hta _ mw_5) (fun _ h9 => h9) rfl dX0_dropOldest_21 ?_
  refine lv_iload_n hx hb dX0_dropOldest_24 rfl (lv_at hl 0 rfl) ?_
  refine lv_iconst (v := (1 : Int32)) hx hb dX0_dropOldest_25 (by decide) ?_
  refine lv_iadd hx hb dX0_dropOldest_26 ?_
  refine va_aldq hx hb hK hP 1 2 rfl rfl (by unfold vp_in; decide) dX0_dropOldest_27 ?_
  refine W.eq (g2 := F0 m 28 ls [.ref (d_t_desks 3), .int (2 : Int32), .ref h_t_desks]) rfl ?_
  refine va_astq hx hb hK hP hD hS 1 2 8 1 rfl rfl rfl rfl (by unfold vp_in; decide) dX0_dropOldest_28 (fun H locs hP hD hS => ?_)
  rw [k_upf] at hP hD
  have hP : va_P G vwCl [(h_t, .inr (0, [.ref h_t_desks, .int t_now, .int t_last])), (h_t_desks, .inl (cD, 9, .inr (.inr (.inr (.inr (fun i => some ((va_up (va_up (va_up d_t_desks 0 (d_t_desks 1)) 1 (d_t_desks 2)) 2 (d_t_desks 3)) i))))))), ((d_t_desks 0), .inr (1, [.int (t_desks_genus 0), .int (t_desks_size 0), .ref (q_t_desks 0), .int (t_desks_limit 0), .long (t_desks_tree 0)])), ((q_t_desks 0), .inl (cI, 8, .inl (a_t_desks 0))), ((d_t_desks 1), .inr (1, [.int (t_desks_genus 1), .int (t_desks_size 1), .ref (q_t_desks 1), .int (t_desks_limit 1), .long (t_desks_tree 1)])), ((q_t_desks 1), .inl (cI, 8, .inl (a_t_desks 1))), ((d_t_desks 2), .inr (1, [.int (t_desks_genus 2), .int (t_desks_size 2), .ref (q_t_desks 2), .int (t_desks_limit 2), .long (t_desks_tree 2)])), ((q_t_desks 2), .inl (cI, 8, .inl (a_t_desks 2))), ((d_t_desks 3), .inr (1, [.int (t_desks_genus 3), .int (t_desks_size 3), .ref (q_t_desks 3), .int (t_desks_limit 3), .long (t_desks_tree 3)])), ((q_t_desks 3), .inl (cI, 8, .inl (a_t_desks 3))), ((d_t_desks 4), .inr (1, [.int (t_desks_genus 4), .int (t_desks_size 4), .ref (q_t_desks 4), .int (t_desks_limit 4), .long (t_desks_tree 4)])), ((q_t_desks 4), .inl (cI, 8, .inl (a_t_desks 4))), ((d_t_desks 5), .inr (1, [.int (t_desks_genus 5), .int (t_desks_size 5), .ref (q_t_desks 5), .int (t_desks_limit 5), .long (t_desks_tree 5)])), ((q_t_desks 5), .inl (cI, 8, .inl (a_t_desks 5))), ((d_t_desks 6), .inr (1, [.int (t_desks_genus 6), .int (t_desks_size 6), .ref (q_t_desks 6), .int (t_desks_limit 6), .long (t_desks_tree 6)])), ((q_t_desks 6), .inl (cI, 8, .inl (a_t_desks 6))), ((d_t_desks 7), .inr (1, [.int (t_desks_genus 7), .int (t_desks_size 7), .ref (q_t_desks 7), .int (t_desks_limit 7), .long (t_desks_tree 7)])), ((q_t_desks 7), .inl (cI, 8, .inl (a_t_desks 7))), ((d_t_desks 8), .inr (1, [.int (t_desks_genus 8), .int (t_desks_size 8), .ref (q_t_desks 8), .int (t_desks_limit 8), .long (t_desks_tree 8)])), ((q_t_desks 8), .inl (cI, 8, .inl (a_t_desks 8)))] H := hP
  have hD : va_D A [(h_t, .inr (0, [.ref h_t_desks, .int t_now, .int t_last])), (h_t_desks, .inl (cD, 9, .inr (.inr (.inr (.inr (fun i => some ((va_up (va_up (va_up d_t_desks 0 (d_t_desks 1)) 1 (d_t_desks 2)) 2 (d_t_desks 3)) i))))))), ((d_t_desks 0), .inr (1, [.int (t_desks_genus 0), .int (t_desks_size 0), .ref (q_t_desks 0), .int (t_desks_limit 0), .long (t_desks_tree 0)])), ((q_t_desks 0), .inl (cI, 8, .inl (a_t_desks 0))), ((d_t_desks 1), .inr (1, [.int (t_desks_genus 1), .int (t_desks_size 1), .ref (q_t_desks 1), .int (t_desks_limit 1), .long (t_desks_tree 1)])), ((q_t_desks 1), .inl (cI, 8, .inl (a_t_desks 1))), ((d_t_desks 2), .inr (1, [.int (t_desks_genus 2), .int (t_desks_size 2), .ref (q_t_desks 2), .int (t_desks_limit 2), .long (t_desks_tree 2)])), ((q_t_desks 2), .inl (cI, 8, .inl (a_t_desks 2))), ((d_t_desks 3), .inr (1, [.int (t_desks_genus 3), .int (t_desks_size 3), .ref (q_t_desks 3), .int (t_desks_limit 3), .long (t_desks_tree 3)])), ((q_t_desks 3), .inl (cI, 8, .inl (a_t_desks 3))), ((d_t_desks 4), .inr (1, [.int (t_desks_genus 4), .int (t_desks_size 4), .ref (q_t_desks 4), .int (t_desks_limit 4), .long (t_desks_tree 4)])), ((q_t_desks 4), .inl (cI, 8, .inl (a_t_desks 4))), ((d_t_desks 5), .inr (1, [.int (t_desks_genus 5), .int (t_desks_size 5), .ref (q_t_desks 5), .int (t_desks_limit 5), .long (t_desks_tree 5)])), ((q_t_desks 5), .inl (cI, 8, .inl (a_t_desks 5))), ((d_t_desks 6), .inr (1, [.int (t_desks_genus 6), .int (t_desks_size 6), .ref (q_t_desks 6), .int (t_desks_limit 6), .long (t_desks_tree 6)])), ((q_t_desks 6), .inl (cI, 8, .inl (a_t_desks 6))), ((d_t_desks 7), .inr (1, [.int (t_desks_genus 7), .int (t_desks_size 7), .ref (q_t_desks 7), .int (t_desks_limit 7), .long (t_desks_tree 7)])), ((q_t_desks 7), .inl (cI, 8, .inl (a_t_desks 7))), ((d_t_desks 8), .inr (1, [.int (t_desks_genus 8), .int (t_desks_size 8), .ref (q_t_desks 8), .int (t_desks_limit 8), .long (t_desks_tree 8)])), ((q_t_desks 8), .inl (cI, 8, .inl (a_t_desks 8)))] := hD
  refine lv_iinc (v := (3 : Int32)) (lv' := [(2, .int (3 : Int32)), (1, .ref (d_t_desks 0)), (0, .ref h_t)]) hx hb dX0_dropOldest_29 hl (k := 0) rfl (by first | rfl | decide) (by decide) rfl (fun ls hl => ?_)
  refine lv_goto (tgt := 9) hx hb dX0_dropOldest_32 (by decide) ?_
  refine lv_iload_n hx hb dX0_dropOldest_9 rfl (lv_at hl 0 rfl) ?_
  refine lv_bipush (v := (8 : Int32)) hx hb dX0_dropOldest_10 (by decide) ?_
  refine lv_icmp_ge (tgt := 35) hx hb dX0_dropOldest_12 (by decide) (fun c9 => absurd c9 (by decide)) (fun _ => ?_)
  refine lv_aload_n hx hb dX0_dropOldest_15 rfl (lv_at hl 2 rfl) ?_
  refine va_get (D := G) (ci := 0) (v := .ref h_t_desks) (C := RX0) (T := TX0) (N := 3) hx hb hts hinX0 hown hK hP 0 rfl rfl 0 (by decide) (hta _ mw_5) (fun _ h9 => h9) rfl dX0_dropOldest_16 ?_
  refine lv_iload_n hx hb dX0_dropOldest_19 rfl (lv_at hl 0 rfl) ?_
  refine lv_aload_n hx hb dX0_dropOldest_20 rfl (lv_at hl 2 rfl) ?_
  refine va_get (D := G) (ci := 0) (v := .ref h_t_desks) (C := RX0) (T := TX0) (N := 3) hx hb hts hinX0 hown hK hP 0 rfl rfl 0 (by decide) (hta _ mw_5) (fun _ h9 => h9) rfl dX0_dropOldest_21 ?_
  refine lv_iload_n hx hb dX0_dropOldest_24 rfl (lv_at hl 0 rfl) ?_
  refine lv_iconst (v := (1 : Int32)) hx hb dX0_dropOldest_25 (by decide) ?_
  refine lv_iadd hx hb dX0_dropOldest_26 ?_
  refine va_aldq hx hb hK hP 1 2 rfl rfl (by unfold vp_in; decide) dX0_dropOldest_27 ?_
  refine W.eq (g2 := F0 m 28 ls [.ref (d_t_desks 4), .int (3 : Int32), .ref h_t_desks]) rfl ?_
  refine va_astq hx hb hK hP hD hS 1 2 10 1 rfl rfl rfl rfl (by unfold vp_in; decide) dX0_dropOldest_28 (fun H locs hP hD hS => ?_)
  rw [k_upf] at hP hD
  have hP : va_P G vwCl [(h_t, .inr (0, [.ref h_t_desks, .int t_now, .int t_last])), (h_t_desks, .inl (cD, 9, .inr (.inr (.inr (.inr (fun i => some ((va_up (va_up (va_up (va_up d_t_desks 0 (d_t_desks 1)) 1 (d_t_desks 2)) 2 (d_t_desks 3)) 3 (d_t_desks 4)) i))))))), ((d_t_desks 0), .inr (1, [.int (t_desks_genus 0), .int (t_desks_size 0), .ref (q_t_desks 0), .int (t_desks_limit 0), .long (t_desks_tree 0)])), ((q_t_desks 0), .inl (cI, 8, .inl (a_t_desks 0))), ((d_t_desks 1), .inr (1, [.int (t_desks_genus 1), .int (t_desks_size 1), .ref (q_t_desks 1), .int (t_desks_limit 1), .long (t_desks_tree 1)])), ((q_t_desks 1), .inl (cI, 8, .inl (a_t_desks 1))), ((d_t_desks 2), .inr (1, [.int (t_desks_genus 2), .int (t_desks_size 2), .ref (q_t_desks 2), .int (t_desks_limit 2), .long (t_desks_tree 2)])), ((q_t_desks 2), .inl (cI, 8, .inl (a_t_desks 2))), ((d_t_desks 3), .inr (1, [.int (t_desks_genus 3), .int (t_desks_size 3), .ref (q_t_desks 3), .int (t_desks_limit 3), .long (t_desks_tree 3)])), ((q_t_desks 3), .inl (cI, 8, .inl (a_t_desks 3))), ((d_t_desks 4), .inr (1, [.int (t_desks_genus 4), .int (t_desks_size 4), .ref (q_t_desks 4), .int (t_desks_limit 4), .long (t_desks_tree 4)])), ((q_t_desks 4), .inl (cI, 8, .inl (a_t_desks 4))), ((d_t_desks 5), .inr (1, [.int (t_desks_genus 5), .int (t_desks_size 5), .ref (q_t_desks 5), .int (t_desks_limit 5), .long (t_desks_tree 5)])), ((q_t_desks 5), .inl (cI, 8, .inl (a_t_desks 5))), ((d_t_desks 6), .inr (1, [.int (t_desks_genus 6), .int (t_desks_size 6), .ref (q_t_desks 6), .int (t_desks_limit 6), .long (t_desks_tree 6)])), ((q_t_desks 6), .inl (cI, 8, .inl (a_t_desks 6))), ((d_t_desks 7), .inr (1, [.int (t_desks_genus 7), .int (t_desks_size 7), .ref (q_t_desks 7), .int (t_desks_limit 7), .long (t_desks_tree 7)])), ((q_t_desks 7), .inl (cI, 8, .inl (a_t_desks 7))), ((d_t_desks 8), .inr (1, [.int (t_desks_genus 8), .int (t_desks_size 8), .ref (q_t_desks 8), .int (t_desks_limit 8), .long (t_desks_tree 8)])), ((q_t_desks 8), .inl (cI, 8, .inl (a_t_desks 8)))] H := hP
  have hD : va_D A [(h_t, .inr (0, [.ref h_t_desks, .int t_now, .int t_last])), (h_t_desks, .inl (cD, 9, .inr (.inr (.inr (.inr (fun i => some ((va_up (va_up (va_up (va_up d_t_desks 0 (d_t_desks 1)) 1 (d_t_desks 2)) 2 (d_t_desks 3)) 3 (d_t_desks 4)) i))))))), ((d_t_desks 0), .inr (1, [.int (t_desks_genus 0), .int (t_desks_size 0), .ref (q_t_desks 0), .int (t_desks_limit 0), .long (t_desks_tree 0)])), ((q_t_desks 0), .inl (cI, 8, .inl (a_t_desks 0))), ((d_t_desks 1), .inr (1, [.int (t_desks_genus 1), .int (t_desks_size 1), .ref (q_t_desks 1), .int (t_desks_limit 1), .long (t_desks_tree 1)])), ((q_t_desks 1), .inl (cI, 8, .inl (a_t_desks 1))), ((d_t_desks 2), .inr (1, [.int (t_desks_genus 2), .int (t_desks_size 2), .ref (q_t_desks 2), .int (t_desks_limit 2), .long (t_desks_tree 2)])), ((q_t_desks 2), .inl (cI, 8, .inl (a_t_desks 2))), ((d_t_desks 3), .inr (1, [.int (t_desks_genus 3), .int (t_desks_size 3), .ref (q_t_desks 3), .int (t_desks_limit 3), .long (t_desks_tree 3)])), ((q_t_desks 3), .inl (cI, 8, .inl (a_t_desks 3))), ((d_t_desks 4), .inr (1, [.int (t_desks_genus 4), .int (t_desks_size 4), .ref (q_t_desks 4), .int (t_desks_limit 4), .long (t_desks_tree 4)])), ((q_t_desks 4), .inl (cI, 8, .inl (a_t_desks 4))), ((d_t_desks 5), .inr (1, [.int (t_desks_genus 5), .int (t_desks_size 5), .ref (q_t_desks 5), .int (t_desks_limit 5), .long (t_desks_tree 5)])), ((q_t_desks 5), .inl (cI, 8, .inl (a_t_desks 5))), ((d_t_desks 6), .inr (1, [.int (t_desks_genus 6), .int (t_desks_size 6), .ref (q_t_desks 6), .int (t_desks_limit 6), .long (t_desks_tree 6)])), ((q_t_desks 6), .inl (cI, 8, .inl (a_t_desks 6))), ((d_t_desks 7), .inr (1, [.int (t_desks_genus 7), .int (t_desks_size 7), .ref (q_t_desks 7), .int (t_desks_limit 7), .long (t_desks_tree 7)])), ((q_t_desks 7), .inl (cI, 8, .inl (a_t_desks 7))), ((d_t_desks 8), .inr (1, [.int (t_desks_genus 8), .int (t_desks_size 8), .ref (q_t_desks 8), .int (t_desks_limit 8), .long (t_desks_tree 8)])), ((q_t_desks 8), .inl (cI, 8, .inl (a_t_desks 8)))] := hD
  refine lv_iinc (v := (4 : Int32)) (lv' := [(2, .int (4 : Int32)), (1, .ref (d_t_desks 0)), (0, .ref h_t)]) hx hb dX0_dropOldest_29 hl (k := 0) rfl (by first | rfl | decide) (by decide) rfl (fun ls hl => ?_)
  refine lv_goto (tgt := 9) hx hb dX0_dropOldest_32 (by decide) ?_
  refine lv_iload_n hx hb dX0_dropOldest_9 rfl (lv_at hl 0 rfl) ?_
  refine lv_bipush (v := (8 : Int32)) hx hb dX0_dropOldest_10 (by decide) ?_
  refine lv_icmp_ge (tgt := 35) hx hb dX0_dropOldest_12 (by decide) (fun c9 => absurd c9 (by decide)) (fun _ => ?_)
  refine lv_aload_n hx hb dX0_dropOldest_15 rfl (lv_at hl 2 rfl) ?_
  refine va_get (D := G) (ci := 0) (v := .ref h_t_desks) (C := RX0) (T := TX0) (N := 3) hx hb hts hinX0 hown hK hP 0 rfl rfl 0 (by decide) (hta _ mw_5) (fun _ h9 => h9) rfl dX0_dropOldest_16 ?_
  refine lv_iload_n hx hb dX0_dropOldest_19 rfl (lv_at hl 0 rfl) ?_
  refine lv_aload_n hx hb dX0_dropOldest_20 rfl (lv_at hl 2 rfl) ?_
  refine va_get (D := G) (ci := 0) (v := .ref h_t_desks) (C := RX0) (T := TX0) (N := 3) hx hb hts hinX0 hown hK hP 0 rfl rfl 0 (by decide) (hta _ mw_5) (fun _ h9 => h9) rfl dX0_dropOldest_21 ?_
  refine lv_iload_n hx hb dX0_dropOldest_24 rfl (lv_at hl 0 rfl) ?_
  refine lv_iconst (v := (1 : Int32)) hx hb dX0_dropOldest_25 (by decide) ?_
  refine lv_iadd hx hb dX0_dropOldest_26 ?_
  refine va_aldq hx hb hK hP 1 2 rfl rfl (by unfold vp_in; decide) dX0_dropOldest_27 ?_
  refine W.eq (g2 := F0 m 28 ls [.ref (d_t_desks 5), .int (4 : Int32), .ref h_t_desks]) rfl ?_
  refine va_astq hx hb hK hP hD hS 1 2 12 1 rfl rfl rfl rfl (by unfold vp_in; decide) dX0_dropOldest_28 (fun H locs hP hD hS => ?_)
  rw [k_upf] at hP hD
  have hP : va_P G vwCl [(h_t, .inr (0, [.ref h_t_desks, .int t_now, .int t_last])), (h_t_desks, .inl (cD, 9, .inr (.inr (.inr (.inr (fun i => some ((va_up (va_up (va_up (va_up (va_up d_t_desks 0 (d_t_desks 1)) 1 (d_t_desks 2)) 2 (d_t_desks 3)) 3 (d_t_desks 4)) 4 (d_t_desks 5)) i))))))), ((d_t_desks 0), .inr (1, [.int (t_desks_genus 0), .int (t_desks_size 0), .ref (q_t_desks 0), .int (t_desks_limit 0), .long (t_desks_tree 0)])), ((q_t_desks 0), .inl (cI, 8, .inl (a_t_desks 0))), ((d_t_desks 1), .inr (1, [.int (t_desks_genus 1), .int (t_desks_size 1), .ref (q_t_desks 1), .int (t_desks_limit 1), .long (t_desks_tree 1)])), ((q_t_desks 1), .inl (cI, 8, .inl (a_t_desks 1))), ((d_t_desks 2), .inr (1, [.int (t_desks_genus 2), .int (t_desks_size 2), .ref (q_t_desks 2), .int (t_desks_limit 2), .long (t_desks_tree 2)])), ((q_t_desks 2), .inl (cI, 8, .inl (a_t_desks 2))), ((d_t_desks 3), .inr (1, [.int (t_desks_genus 3), .int (t_desks_size 3), .ref (q_t_desks 3), .int (t_desks_limit 3), .long (t_desks_tree 3)])), ((q_t_desks 3), .inl (cI, 8, .inl (a_t_desks 3))), ((d_t_desks 4), .inr (1, [.int (t_desks_genus 4), .int (t_desks_size 4), .ref (q_t_desks 4), .int (t_desks_limit 4), .long (t_desks_tree 4)])), ((q_t_desks 4), .inl (cI, 8, .inl (a_t_desks 4))), ((d_t_desks 5), .inr (1, [.int (t_desks_genus 5), .int (t_desks_size 5), .ref (q_t_desks 5), .int (t_desks_limit 5), .long (t_desks_tree 5)])), ((q_t_desks 5), .inl (cI, 8, .inl (a_t_desks 5))), ((d_t_desks 6), .inr (1, [.int (t_desks_genus 6), .int (t_desks_size 6), .ref (q_t_desks 6), .int (t_desks_limit 6), .long (t_desks_tree 6)])), ((q_t_desks 6), .inl (cI, 8, .inl (a_t_desks 6))), ((d_t_desks 7), .inr (1, [.int (t_desks_genus 7), .int (t_desks_size 7), .ref (q_t_desks 7), .int (t_desks_limit 7), .long (t_desks_tree 7)])), ((q_t_desks 7), .inl (cI, 8, .inl (a_t_desks 7))), ((d_t_desks 8), .inr (1, [.int (t_desks_genus 8), .int (t_desks_size 8), .ref (q_t_desks 8), .int (t_desks_limit 8), .long (t_desks_tree 8)])), ((q_t_desks 8), .inl (cI, 8, .inl (a_t_desks 8)))] H := hP
  have hD : va_D A [(h_t, .inr (0, [.ref h_t_desks, .int t_now, .int t_last])), (h_t_desks, .inl (cD, 9, .inr (.inr (.inr (.inr (fun i => some ((va_up (va_up (va_up (va_up (va_up d_t_desks 0 (d_t_desks 1)) 1 (d_t_desks 2)) 2 (d_t_desks 3)) 3 (d_t_desks 4)) 4 (d_t_desks 5)) i))))))), ((d_t_desks 0), .inr (1, [.int (t_desks_genus 0), .int (t_desks_size 0), .ref (q_t_desks 0), .int (t_desks_limit 0), .long (t_desks_tree 0)])), ((q_t_desks 0), .inl (cI, 8, .inl (a_t_desks 0))), ((d_t_desks 1), .inr (1, [.int (t_desks_genus 1), .int (t_desks_size 1), .ref (q_t_desks 1), .int (t_desks_limit 1), .long (t_desks_tree 1)])), ((q_t_desks 1), .inl (cI, 8, .inl (a_t_desks 1))), ((d_t_desks 2), .inr (1, [.int (t_desks_genus 2), .int (t_desks_size 2), .ref (q_t_desks 2), .int (t_desks_limit 2), .long (t_desks_tree 2)])), ((q_t_desks 2), .inl (cI, 8, .inl (a_t_desks 2))), ((d_t_desks 3), .inr (1, [.int (t_desks_genus 3), .int (t_desks_size 3), .ref (q_t_desks 3), .int (t_desks_limit 3), .long (t_desks_tree 3)])), ((q_t_desks 3), .inl (cI, 8, .inl (a_t_desks 3))), ((d_t_desks 4), .inr (1, [.int (t_desks_genus 4), .int (t_desks_size 4), .ref (q_t_desks 4), .int (t_desks_limit 4), .long (t_desks_tree 4)])), ((q_t_desks 4), .inl (cI, 8, .inl (a_t_desks 4))), ((d_t_desks 5), .inr (1, [.int (t_desks_genus 5), .int (t_desks_size 5), .ref (q_t_desks 5), .int (t_desks_limit 5), .long (t_desks_tree 5)])), ((q_t_desks 5), .inl (cI, 8, .inl (a_t_desks 5))), ((d_t_desks 6), .inr (1, [.int (t_desks_genus 6), .int (t_desks_size 6), .ref (q_t_desks 6), .int (t_desks_limit 6), .long (t_desks_tree 6)])), ((q_t_desks 6), .inl (cI, 8, .inl (a_t_desks 6))), ((d_t_desks 7), .inr (1, [.int (t_desks_genus 7), .int (t_desks_size 7), .ref (q_t_desks 7), .int (t_desks_limit 7), .long (t_desks_tree 7)])), ((q_t_desks 7), .inl (cI, 8, .inl (a_t_desks 7))), ((d_t_desks 8), .inr (1, [.int (t_desks_genus 8), .int (t_desks_size 8), .ref (q_t_desks 8), .int (t_desks_limit 8), .long (t_desks_tree 8)])), ((q_t_desks 8), .inl (cI, 8, .inl (a_t_desks 8)))] := hD
  refine lv_iinc (v := (5 : Int32)) (lv' := [(2, .int (5 : Int32)), (1, .ref (d_t_desks 0)), (0, .ref h_t)]) hx hb dX0_dropOldest_29 hl (k := 0) rfl (by first | rfl | decide) (by decide) rfl (fun ls hl => ?_)
  refine lv_goto (tgt := 9) hx hb dX0_dropOldest_32 (by decide) ?_
  refine lv_iload_n hx hb dX0_dropOldest_9 rfl (lv_at hl 0 rfl) ?_
  refine lv_bipush (v := (8 : Int32)) hx hb dX0_dropOldest_10 (by decide) ?_
  refine lv_icmp_ge (tgt := 35) hx hb dX0_dropOldest_12 (by decide) (fun c9 => absurd c9 (by decide)) (fun _ => ?_)
  refine lv_aload_n hx hb dX0_dropOldest_15 rfl (lv_at hl 2 rfl) ?_
  refine va_get (D := G) (ci := 0) (v := .ref h_t_desks) (C := RX0) (T := TX0) (N := 3) hx hb hts hinX0 hown hK hP 0 rfl rfl 0 (by decide) (hta _ mw_5) (fun _ h9 => h9) rfl dX0_dropOldest_16 ?_
  refine lv_iload_n hx hb dX0_dropOldest_19 rfl (lv_at hl 0 rfl) ?_
  refine lv_aload_n hx hb dX0_dropOldest_20 rfl (lv_at hl 2 rfl) ?_
  refine va_get (D := G) (ci := 0) (v := .ref h_t_desks) (C := RX0) (T := TX0) (N := 3) hx hb hts hinX0 hown hK hP 0 rfl rfl 0 (by decide) (hta _ mw_5) (fun _ h9 => h9) rfl dX0_dropOldest_21 ?_
  refine lv_iload_n hx hb dX0_dropOldest_24 rfl (lv_at hl 0 rfl) ?_
  refine lv_iconst (v := (1 : Int32)) hx hb dX0_dropOldest_25 (by decide) ?_
  refine lv_iadd hx hb dX0_dropOldest_26 ?_
  refine va_aldq hx hb hK hP 1 2 rfl rfl (by unfold vp_in; decide) dX0_dropOldest_27 ?_
  refine W.eq (g2 := F0 m 28 ls [.ref (d_t_desks 6), .int (5 : Int32), .ref h_t_desks]) rfl ?_
  refine va_astq hx hb hK hP hD hS 1 2 14 1 rfl rfl rfl rfl (by unfold vp_in; decide) dX0_dropOldest_28 (fun H locs hP hD hS => ?_)
  rw [k_upf] at hP hD
  have hP : va_P G vwCl [(h_t, .inr (0, [.ref h_t_desks, .int t_now, .int t_last])), (h_t_desks, .inl (cD, 9, .inr (.inr (.inr (.inr (fun i => some ((va_up (va_up (va_up (va_up (va_up (va_up d_t_desks 0 (d_t_desks 1)) 1 (d_t_desks 2)) 2 (d_t_desks 3)) 3 (d_t_desks 4)) 4 (d_t_desks 5)) 5 (d_t_desks 6)) i))))))), ((d_t_desks 0), .inr (1, [.int (t_desks_genus 0), .int (t_desks_size 0), .ref (q_t_desks 0), .int (t_desks_limit 0), .long (t_desks_tree 0)])), ((q_t_desks 0), .inl (cI, 8, .inl (a_t_desks 0))), ((d_t_desks 1), .inr (1, [.int (t_desks_genus 1), .int (t_desks_size 1), .ref (q_t_desks 1), .int (t_desks_limit 1), .long (t_desks_tree 1)])), ((q_t_desks 1), .inl (cI, 8, .inl (a_t_desks 1))), ((d_t_desks 2), .inr (1, [.int (t_desks_genus 2), .int (t_desks_size 2), .ref (q_t_desks 2), .int (t_desks_limit 2), .long (t_desks_tree 2)])), ((q_t_desks 2), .inl (cI, 8, .inl (a_t_desks 2))), ((d_t_desks 3), .inr (1, [.int (t_desks_genus 3), .int (t_desks_size 3), .ref (q_t_desks 3), .int (t_desks_limit 3), .long (t_desks_tree 3)])), ((q_t_desks 3), .inl (cI, 8, .inl (a_t_desks 3))), ((d_t_desks 4), .inr (1, [.int (t_desks_genus 4), .int (t_desks_size 4), .ref (q_t_desks 4), .int (t_desks_limit 4), .long (t_desks_tree 4)])), ((q_t_desks 4), .inl (cI, 8, .inl (a_t_desks 4))), ((d_t_desks 5), .inr (1, [.int (t_desks_genus 5), .int (t_desks_size 5), .ref (q_t_desks 5), .int (t_desks_limit 5), .long (t_desks_tree 5)])), ((q_t_desks 5), .inl (cI, 8, .inl (a_t_desks 5))), ((d_t_desks 6), .inr (1, [.int (t_desks_genus 6), .int (t_desks_size 6), .ref (q_t_desks 6), .int (t_desks_limit 6), .long (t_desks_tree 6)])), ((q_t_desks 6), .inl (cI, 8, .inl (a_t_desks 6))), ((d_t_desks 7), .inr (1, [.int (t_desks_genus 7), .int (t_desks_size 7), .ref (q_t_desks 7), .int (t_desks_limit 7), .long (t_desks_tree 7)])), ((q_t_desks 7), .inl (cI, 8, .inl (a_t_desks 7))), ((d_t_desks 8), .inr (1, [.int (t_desks_genus 8), .int (t_desks_size 8), .ref (q_t_desks 8), .int (t_desks_limit 8), .long (t_desks_tree 8)])), ((q_t_desks 8), .inl (cI, 8, .inl (a_t_desks 8)))] H := hP
  have hD : va_D A [(h_t, .inr (0, [.ref h_t_desks, .int t_now, .int t_last])), (h_t_desks, .inl (cD, 9, .inr (.inr (.inr (.inr (fun i => some ((va_up (va_up (va_up (va_up (va_up (va_up d_t_desks 0 (d_t_desks 1)) 1 (d_t_desks 2)) 2 (d_t_desks 3)) 3 (d_t_desks 4)) 4 (d_t_desks 5)) 5 (d_t_desks 6)) i))))))), ((d_t_desks 0), .inr (1, [.int (t_desks_genus 0), .int (t_desks_size 0), .ref (q_t_desks 0), .int (t_desks_limit 0), .long (t_desks_tree 0)])), ((q_t_desks 0), .inl (cI, 8, .inl (a_t_desks 0))), ((d_t_desks 1), .inr (1, [.int (t_desks_genus 1), .int (t_desks_size 1), .ref (q_t_desks 1), .int (t_desks_limit 1), .long (t_desks_tree 1)])), ((q_t_desks 1), .inl (cI, 8, .inl (a_t_desks 1))), ((d_t_desks 2), .inr (1, [.int (t_desks_genus 2), .int (t_desks_size 2), .ref (q_t_desks 2), .int (t_desks_limit 2), .long (t_desks_tree 2)])), ((q_t_desks 2), .inl (cI, 8, .inl (a_t_desks 2))), ((d_t_desks 3), .inr (1, [.int (t_desks_genus 3), .int (t_desks_size 3), .ref (q_t_desks 3), .int (t_desks_limit 3), .long (t_desks_tree 3)])), ((q_t_desks 3), .inl (cI, 8, .inl (a_t_desks 3))), ((d_t_desks 4), .inr (1, [.int (t_desks_genus 4), .int (t_desks_size 4), .ref (q_t_desks 4), .int (t_desks_limit 4), .long (t_desks_tree 4)])), ((q_t_desks 4), .inl (cI, 8, .inl (a_t_desks 4))), ((d_t_desks 5), .inr (1, [.int (t_desks_genus 5), .int (t_desks_size 5), .ref (q_t_desks 5), .int (t_desks_limit 5), .long (t_desks_tree 5)])), ((q_t_desks 5), .inl (cI, 8, .inl (a_t_desks 5))), ((d_t_desks 6), .inr (1, [.int (t_desks_genus 6), .int (t_desks_size 6), .ref (q_t_desks 6), .int (t_desks_limit 6), .long (t_desks_tree 6)])), ((q_t_desks 6), .inl (cI, 8, .inl (a_t_desks 6))), ((d_t_desks 7), .inr (1, [.int (t_desks_genus 7), .int (t_desks_size 7), .ref (q_t_desks 7), .int (t_desks_limit 7), .long (t_desks_tree 7)])), ((q_t_desks 7), .inl (cI, 8, .inl (a_t_desks 7))), ((d_t_desks 8), .inr (1, [.int (t_desks_genus 8), .int (t_desks_size 8), .ref (q_t_desks 8), .int (t_desks_limit 8), .long (t_desks_tree 8)])), ((q_t_desks 8), .inl (cI, 8, .inl (a_t_desks 8)))] := hD
  refine lv_iinc (v := (6 : Int32)) (lv' := [(2, .int (6 : Int32)), (1, .ref (d_t_desks 0)), (0, .ref h_t)]) hx hb dX0_dropOldest_29 hl (k := 0) rfl (by first | rfl | decide) (by decide) rfl (fun ls hl => ?_)
  refine lv_goto (tgt := 9) hx hb dX0_dropOldest_32 (by decide) ?_
  refine lv_iload_n hx hb dX0_dropOldest_9 rfl (lv_at hl 0 rfl) ?_
  refine lv_bipush (v := (8 : Int32)) hx hb dX0_dropOldest_10 (by decide) ?_
  refine lv_icmp_ge (tgt := 35) hx hb dX0_dropOldest_12 (by decide) (fun c9 => absurd c9 (by decide)) (fun _ => ?_)
  refine lv_aload_n hx hb dX0_dropOldest_15 rfl (lv_at hl 2 rfl) ?_
  refine va_get (D := G) (ci := 0) (v := .ref h_t_desks) (C := RX0) (T := TX0) (N := 3) hx hb hts hinX0 hown hK hP 0 rfl rfl 0 (by decide) (hta _ mw_5) (fun _ h9 => h9) rfl dX0_dropOldest_16 ?_
  refine lv_iload_n hx hb dX0_dropOldest_19 rfl (lv_at hl 0 rfl) ?_
  refine lv_aload_n hx hb dX0_dropOldest_20 rfl (lv_at hl 2 rfl) ?_
  refine va_get (D := G) (ci := 0) (v := .ref h_t_desks) (C := RX0) (T := TX0) (N := 3) hx hb hts hinX0 hown hK hP 0 rfl rfl 0 (by decide) (hta _ mw_5) (fun _ h9 => h9) rfl dX0_dropOldest_21 ?_
  refine lv_iload_n hx hb dX0_dropOldest_24 rfl (lv_at hl 0 rfl) ?_
  refine lv_iconst (v := (1 : Int32)) hx hb dX0_dropOldest_25 (by decide) ?_
  refine lv_iadd hx hb dX0_dropOldest_26 ?_
  refine va_aldq hx hb hK hP 1 2 rfl rfl (by unfold vp_in; decide) dX0_dropOldest_27 ?_
  refine W.eq (g2 := F0 m 28 ls [.ref (d_t_desks 7), .int (6 : Int32), .ref h_t_desks]) rfl ?_
  refine va_astq hx hb hK hP hD hS 1 2 16 1 rfl rfl rfl rfl (by unfold vp_in; decide) dX0_dropOldest_28 (fun H locs hP hD hS => ?_)
  rw [k_upf] at hP hD
  have hP : va_P G vwCl [(h_t, .inr (0, [.ref h_t_desks, .int t_now, .int t_last])), (h_t_desks, .inl (cD, 9, .inr (.inr (.inr (.inr (fun i => some ((va_up (va_up (va_up (va_up (va_up (va_up (va_up d_t_desks 0 (d_t_desks 1)) 1 (d_t_desks 2)) 2 (d_t_desks 3)) 3 (d_t_desks 4)) 4 (d_t_desks 5)) 5 (d_t_desks 6)) 6 (d_t_desks 7)) i))))))), ((d_t_desks 0), .inr (1, [.int (t_desks_genus 0), .int (t_desks_size 0), .ref (q_t_desks 0), .int (t_desks_limit 0), .long (t_desks_tree 0)])), ((q_t_desks 0), .inl (cI, 8, .inl (a_t_desks 0))), ((d_t_desks 1), .inr (1, [.int (t_desks_genus 1), .int (t_desks_size 1), .ref (q_t_desks 1), .int (t_desks_limit 1), .long (t_desks_tree 1)])), ((q_t_desks 1), .inl (cI, 8, .inl (a_t_desks 1))), ((d_t_desks 2), .inr (1, [.int (t_desks_genus 2), .int (t_desks_size 2), .ref (q_t_desks 2), .int (t_desks_limit 2), .long (t_desks_tree 2)])), ((q_t_desks 2), .inl (cI, 8, .inl (a_t_desks 2))), ((d_t_desks 3), .inr (1, [.int (t_desks_genus 3), .int (t_desks_size 3), .ref (q_t_desks 3), .int (t_desks_limit 3), .long (t_desks_tree 3)])), ((q_t_desks 3), .inl (cI, 8, .inl (a_t_desks 3))), ((d_t_desks 4), .inr (1, [.int (t_desks_genus 4), .int (t_desks_size 4), .ref (q_t_desks 4), .int (t_desks_limit 4), .long (t_desks_tree 4)])), ((q_t_desks 4), .inl (cI, 8, .inl (a_t_desks 4))), ((d_t_desks 5), .inr (1, [.int (t_desks_genus 5), .int (t_desks_size 5), .ref (q_t_desks 5), .int (t_desks_limit 5), .long (t_desks_tree 5)])), ((q_t_desks 5), .inl (cI, 8, .inl (a_t_desks 5))), ((d_t_desks 6), .inr (1, [.int (t_desks_genus 6), .int (t_desks_size 6), .ref (q_t_desks 6), .int (t_desks_limit 6), .long (t_desks_tree 6)])), ((q_t_desks 6), .inl (cI, 8, .inl (a_t_desks 6))), ((d_t_desks 7), .inr (1, [.int (t_desks_genus 7), .int (t_desks_size 7), .ref (q_t_desks 7), .int (t_desks_limit 7), .long (t_desks_tree 7)])), ((q_t_desks 7), .inl (cI, 8, .inl (a_t_desks 7))), ((d_t_desks 8), .inr (1, [.int (t_desks_genus 8), .int (t_desks_size 8), .ref (q_t_desks 8), .int (t_desks_limit 8), .long (t_desks_tree 8)])), ((q_t_desks 8), .inl (cI, 8, .inl (a_t_desks 8)))] H := hP
  have hD : va_D A [(h_t, .inr (0, [.ref h_t_desks, .int t_now, .int t_last])), (h_t_desks, .inl (cD, 9, .inr (.inr (.inr (.inr (fun i => some ((va_up (va_up (va_up (va_up (va_up (va_up (va_up d_t_desks 0 (d_t_desks 1)) 1 (d_t_desks 2)) 2 (d_t_desks 3)) 3 (d_t_desks 4)) 4 (d_t_desks 5)) 5 (d_t_desks 6)) 6 (d_t_desks 7)) i))))))), ((d_t_desks 0), .inr (1, [.int (t_desks_genus 0), .int (t_desks_size 0), .ref (q_t_desks 0), .int (t_desks_limit 0), .long (t_desks_tree 0)])), ((q_t_desks 0), .inl (cI, 8, .inl (a_t_desks 0))), ((d_t_desks 1), .inr (1, [.int (t_desks_genus 1), .int (t_desks_size 1), .ref (q_t_desks 1), .int (t_desks_limit 1), .long (t_desks_tree 1)])), ((q_t_desks 1), .inl (cI, 8, .inl (a_t_desks 1))), ((d_t_desks 2), .inr (1, [.int (t_desks_genus 2), .int (t_desks_size 2), .ref (q_t_desks 2), .int (t_desks_limit 2), .long (t_desks_tree 2)])), ((q_t_desks 2), .inl (cI, 8, .inl (a_t_desks 2))), ((d_t_desks 3), .inr (1, [.int (t_desks_genus 3), .int (t_desks_size 3), .ref (q_t_desks 3), .int (t_desks_limit 3), .long (t_desks_tree 3)])), ((q_t_desks 3), .inl (cI, 8, .inl (a_t_desks 3))), ((d_t_desks 4), .inr (1, [.int (t_desks_genus 4), .int (t_desks_size 4), .ref (q_t_desks 4), .int (t_desks_limit 4), .long (t_desks_tree 4)])), ((q_t_desks 4), .inl (cI, 8, .inl (a_t_desks 4))), ((d_t_desks 5), .inr (1, [.int (t_desks_genus 5), .int (t_desks_size 5), .ref (q_t_desks 5), .int (t_desks_limit 5), .long (t_desks_tree 5)])), ((q_t_desks 5), .inl (cI, 8, .inl (a_t_desks 5))), ((d_t_desks 6), .inr (1, [.int (t_desks_genus 6), .int (t_desks_size 6), .ref (q_t_desks 6), .int (t_desks_limit 6), .long (t_desks_tree 6)])), ((q_t_desks 6), .inl (cI, 8, .inl (a_t_desks 6))), ((d_t_desks 7), .inr (1, [.int (t_desks_genus 7), .int (t_desks_size 7), .ref (q_t_desks 7), .int (t_desks_limit 7), .long (t_desks_tree 7)])), ((q_t_desks 7), .inl (cI, 8, .inl (a_t_desks 7))), ((d_t_desks 8), .inr (1, [.int (t_desks_genus 8), .int (t_desks_size 8), .ref (q_t_desks 8), .int (t_desks_limit 8), .long (t_desks_tree 8)])), ((q_t_desks 8), .inl (cI, 8, .inl (a_t_desks 8)))] := hD
  refine lv_iinc (v := (7 : Int32)) (lv' := [(2, .int (7 : Int32)), (1, .ref (d_t_desks 0)), (0, .ref h_t)]) hx hb dX0_dropOldest_29 hl (k := 0) rfl (by first | rfl | decide) (by decide) rfl (fun ls hl => ?_)
  refine lv_goto (tgt := 9) hx hb dX0_dropOldest_32 (by decide) ?_
  refine lv_iload_n hx hb dX0_dropOldest_9 rfl (lv_at hl 0 rfl) ?_
  refine lv_bipush (v := (8 : Int32)) hx hb dX0_dropOldest_10 (by decide) ?_
  refine lv_icmp_ge (tgt := 35) hx hb dX0_dropOldest_12 (by decide) (fun c9 => absurd c9 (by decide)) (fun _ => ?_)
  refine lv_aload_n hx hb dX0_dropOldest_15 rfl (lv_at hl 2 rfl) ?_
  refine va_get (D := G) (ci := 0) (v := .ref h_t_desks) (C := RX0) (T := TX0) (N := 3) hx hb hts hinX0 hown hK hP 0 rfl rfl 0 (by decide) (hta _ mw_5) (fun _ h9 => h9) rfl dX0_dropOldest_16 ?_
  refine lv_iload_n hx hb dX0_dropOldest_19 rfl (lv_at hl 0 rfl) ?_
  refine lv_aload_n hx hb dX0_dropOldest_20 rfl (lv_at hl 2 rfl) ?_
  refine va_get (D := G) (ci := 0) (v := .ref h_t_desks) (C := RX0) (T := TX0) (N := 3) hx hb hts hinX0 hown hK hP 0 rfl rfl 0 (by decide) (hta _ mw_5) (fun _ h9 => h9) rfl dX0_dropOldest_21 ?_
  refine lv_iload_n hx hb dX0_dropOldest_24 rfl (lv_at hl 0 rfl) ?_
  refine lv_iconst (v := (1 : Int32)) hx hb dX0_dropOldest_25 (by decide) ?_
  refine lv_iadd hx hb dX0_dropOldest_26 ?_
  refine va_aldq hx hb hK hP 1 2 rfl rfl (by unfold vp_in; decide) dX0_dropOldest_27 ?_
  refine W.eq (g2 := F0 m 28 ls [.ref (d_t_desks 8), .int (7 : Int32), .ref h_t_desks]) rfl ?_
  refine va_astq hx hb hK hP hD hS 1 2 18 1 rfl rfl rfl rfl (by unfold vp_in; decide) dX0_dropOldest_28 (fun H locs hP hD hS => ?_)
  rw [k_upf] at hP hD
  have hP : va_P G vwCl [(h_t, .inr (0, [.ref h_t_desks, .int t_now, .int t_last])), (h_t_desks, .inl (cD, 9, .inr (.inr (.inr (.inr (fun i => some ((va_up (va_up (va_up (va_up (va_up (va_up (va_up (va_up d_t_desks 0 (d_t_desks 1)) 1 (d_t_desks 2)) 2 (d_t_desks 3)) 3 (d_t_desks 4)) 4 (d_t_desks 5)) 5 (d_t_desks 6)) 6 (d_t_desks 7)) 7 (d_t_desks 8)) i))))))), ((d_t_desks 0), .inr (1, [.int (t_desks_genus 0), .int (t_desks_size 0), .ref (q_t_desks 0), .int (t_desks_limit 0), .long (t_desks_tree 0)])), ((q_t_desks 0), .inl (cI, 8, .inl (a_t_desks 0))), ((d_t_desks 1), .inr (1, [.int (t_desks_genus 1), .int (t_desks_size 1), .ref (q_t_desks 1), .int (t_desks_limit 1), .long (t_desks_tree 1)])), ((q_t_desks 1), .inl (cI, 8, .inl (a_t_desks 1))), ((d_t_desks 2), .inr (1, [.int (t_desks_genus 2), .int (t_desks_size 2), .ref (q_t_desks 2), .int (t_desks_limit 2), .long (t_desks_tree 2)])), ((q_t_desks 2), .inl (cI, 8, .inl (a_t_desks 2))), ((d_t_desks 3), .inr (1, [.int (t_desks_genus 3), .int (t_desks_size 3), .ref (q_t_desks 3), .int (t_desks_limit 3), .long (t_desks_tree 3)])), ((q_t_desks 3), .inl (cI, 8, .inl (a_t_desks 3))), ((d_t_desks 4), .inr (1, [.int (t_desks_genus 4), .int (t_desks_size 4), .ref (q_t_desks 4), .int (t_desks_limit 4), .long (t_desks_tree 4)])), ((q_t_desks 4), .inl (cI, 8, .inl (a_t_desks 4))), ((d_t_desks 5), .inr (1, [.int (t_desks_genus 5), .int (t_desks_size 5), .ref (q_t_desks 5), .int (t_desks_limit 5), .long (t_desks_tree 5)])), ((q_t_desks 5), .inl (cI, 8, .inl (a_t_desks 5))), ((d_t_desks 6), .inr (1, [.int (t_desks_genus 6), .int (t_desks_size 6), .ref (q_t_desks 6), .int (t_desks_limit 6), .long (t_desks_tree 6)])), ((q_t_desks 6), .inl (cI, 8, .inl (a_t_desks 6))), ((d_t_desks 7), .inr (1, [.int (t_desks_genus 7), .int (t_desks_size 7), .ref (q_t_desks 7), .int (t_desks_limit 7), .long (t_desks_tree 7)])), ((q_t_desks 7), .inl (cI, 8, .inl (a_t_desks 7))), ((d_t_desks 8), .inr (1, [.int (t_desks_genus 8), .int (t_desks_size 8), .ref (q_t_desks 8), .int (t_desks_limit 8), .long (t_desks_tree 8)])), ((q_t_desks 8), .inl (cI, 8, .inl (a_t_desks 8)))] H := hP
  have hD : va_D A [(h_t, .inr (0, [.ref h_t_desks, .int t_now, .int t_last])), (h_t_desks, .inl (cD, 9, .inr (.inr (.inr (.inr (fun i => some ((va_up (va_up (va_up (va_up (va_up (va_up (va_up (va_up d_t_desks 0 (d_t_desks 1)) 1 (d_t_desks 2)) 2 (d_t_desks 3)) 3 (d_t_desks 4)) 4 (d_t_desks 5)) 5 (d_t_desks 6)) 6 (d_t_desks 7)) 7 (d_t_desks 8)) i))))))), ((d_t_desks 0), .inr (1, [.int (t_desks_genus 0), .int (t_desks_size 0), .ref (q_t_desks 0), .int (t_desks_limit 0), .long (t_desks_tree 0)])), ((q_t_desks 0), .inl (cI, 8, .inl (a_t_desks 0))), ((d_t_desks 1), .inr (1, [.int (t_desks_genus 1), .int (t_desks_size 1), .ref (q_t_desks 1), .int (t_desks_limit 1), .long (t_desks_tree 1)])), ((q_t_desks 1), .inl (cI, 8, .inl (a_t_desks 1))), ((d_t_desks 2), .inr (1, [.int (t_desks_genus 2), .int (t_desks_size 2), .ref (q_t_desks 2), .int (t_desks_limit 2), .long (t_desks_tree 2)])), ((q_t_desks 2), .inl (cI, 8, .inl (a_t_desks 2))), ((d_t_desks 3), .inr (1, [.int (t_desks_genus 3), .int (t_desks_size 3), .ref (q_t_desks 3), .int (t_desks_limit 3), .long (t_desks_tree 3)])), ((q_t_desks 3), .inl (cI, 8, .inl (a_t_desks 3))), ((d_t_desks 4), .inr (1, [.int (t_desks_genus 4), .int (t_desks_size 4), .ref (q_t_desks 4), .int (t_desks_limit 4), .long (t_desks_tree 4)])), ((q_t_desks 4), .inl (cI, 8, .inl (a_t_desks 4))), ((d_t_desks 5), .inr (1, [.int (t_desks_genus 5), .int (t_desks_size 5), .ref (q_t_desks 5), .int (t_desks_limit 5), .long (t_desks_tree 5)])), ((q_t_desks 5), .inl (cI, 8, .inl (a_t_desks 5))), ((d_t_desks 6), .inr (1, [.int (t_desks_genus 6), .int (t_desks_size 6), .ref (q_t_desks 6), .int (t_desks_limit 6), .long (t_desks_tree 6)])), ((q_t_desks 6), .inl (cI, 8, .inl (a_t_desks 6))), ((d_t_desks 7), .inr (1, [.int (t_desks_genus 7), .int (t_desks_size 7), .ref (q_t_desks 7), .int (t_desks_limit 7), .long (t_desks_tree 7)])), ((q_t_desks 7), .inl (cI, 8, .inl (a_t_desks 7))), ((d_t_desks 8), .inr (1, [.int (t_desks_genus 8), .int (t_desks_size 8), .ref (q_t_desks 8), .int (t_desks_limit 8), .long (t_desks_tree 8)])), ((q_t_desks 8), .inl (cI, 8, .inl (a_t_desks 8)))] := hD
  refine lv_iinc (v := (8 : Int32)) (lv' := [(2, .int (8 : Int32)), (1, .ref (d_t_desks 0)), (0, .ref h_t)]) hx hb dX0_dropOldest_29 hl (k := 0) rfl (by first | rfl | decide) (by decide) rfl (fun ls hl => ?_)
  refine lv_goto (tgt := 9) hx hb dX0_dropOldest_32 (by decide) ?_
  refine lv_iload_n hx hb dX0_dropOldest_9 rfl (lv_at hl 0 rfl) ?_
  refine lv_bipush (v := (8 : Int32)) hx hb dX0_dropOldest_10 (by decide) ?_
  refine lv_icmp_ge (tgt := 35) hx hb dX0_dropOldest_12 (by decide) (fun _ => ?_) (fun c9 => absurd (by decide) c9)
  refine lv_aload_n hx hb dX0_dropOldest_35 rfl (lv_at hl 2 rfl) ?_
  refine va_get (D := G) (ci := 0) (v := .ref h_t_desks) (C := RX0) (T := TX0) (N := 3) hx hb hts hinX0 hown hK hP 0 rfl rfl 0 (by decide) (hta _ mw_5) (fun _ h9 => h9) rfl dX0_dropOldest_36 ?_
  refine lv_bipush (v := (8 : Int32)) hx hb dX0_dropOldest_39 (by decide) ?_
  refine lv_aload_n hx hb dX0_dropOldest_41 rfl (lv_at hl 1 rfl) ?_
  refine va_astq hx hb hK hP hD hS 1 2 2 1 rfl rfl rfl rfl (by unfold vp_in; decide) dX0_dropOldest_42 (fun H locs hP hD hS => ?_)
  rw [k_upf] at hP hD
  have hP : va_P G vwCl [(h_t, .inr (0, [.ref h_t_desks, .int t_now, .int t_last])), (h_t_desks, .inl (cD, 9, .inr (.inr (.inr (.inr (fun i => some ((va_up (va_up (va_up (va_up (va_up (va_up (va_up (va_up (va_up d_t_desks 0 (d_t_desks 1)) 1 (d_t_desks 2)) 2 (d_t_desks 3)) 3 (d_t_desks 4)) 4 (d_t_desks 5)) 5 (d_t_desks 6)) 6 (d_t_desks 7)) 7 (d_t_desks 8)) 8 (d_t_desks 0)) i))))))), ((d_t_desks 0), .inr (1, [.int (t_desks_genus 0), .int (t_desks_size 0), .ref (q_t_desks 0), .int (t_desks_limit 0), .long (t_desks_tree 0)])), ((q_t_desks 0), .inl (cI, 8, .inl (a_t_desks 0))), ((d_t_desks 1), .inr (1, [.int (t_desks_genus 1), .int (t_desks_size 1), .ref (q_t_desks 1), .int (t_desks_limit 1), .long (t_desks_tree 1)])), ((q_t_desks 1), .inl (cI, 8, .inl (a_t_desks 1))), ((d_t_desks 2), .inr (1, [.int (t_desks_genus 2), .int (t_desks_size 2), .ref (q_t_desks 2), .int (t_desks_limit 2), .long (t_desks_tree 2)])), ((q_t_desks 2), .inl (cI, 8, .inl (a_t_desks 2))), ((d_t_desks 3), .inr (1, [.int (t_desks_genus 3), .int (t_desks_size 3), .ref (q_t_desks 3), .int (t_desks_limit 3), .long (t_desks_tree 3)])), ((q_t_desks 3), .inl (cI, 8, .inl (a_t_desks 3))), ((d_t_desks 4), .inr (1, [.int (t_desks_genus 4), .int (t_desks_size 4), .ref (q_t_desks 4), .int (t_desks_limit 4), .long (t_desks_tree 4)])), ((q_t_desks 4), .inl (cI, 8, .inl (a_t_desks 4))), ((d_t_desks 5), .inr (1, [.int (t_desks_genus 5), .int (t_desks_size 5), .ref (q_t_desks 5), .int (t_desks_limit 5), .long (t_desks_tree 5)])), ((q_t_desks 5), .inl (cI, 8, .inl (a_t_desks 5))), ((d_t_desks 6), .inr (1, [.int (t_desks_genus 6), .int (t_desks_size 6), .ref (q_t_desks 6), .int (t_desks_limit 6), .long (t_desks_tree 6)])), ((q_t_desks 6), .inl (cI, 8, .inl (a_t_desks 6))), ((d_t_desks 7), .inr (1, [.int (t_desks_genus 7), .int (t_desks_size 7), .ref (q_t_desks 7), .int (t_desks_limit 7), .long (t_desks_tree 7)])), ((q_t_desks 7), .inl (cI, 8, .inl (a_t_desks 7))), ((d_t_desks 8), .inr (1, [.int (t_desks_genus 8), .int (t_desks_size 8), .ref (q_t_desks 8), .int (t_desks_limit 8), .long (t_desks_tree 8)])), ((q_t_desks 8), .inl (cI, 8, .inl (a_t_desks 8)))] H := hP
  have hD : va_D A [(h_t, .inr (0, [.ref h_t_desks, .int t_now, .int t_last])), (h_t_desks, .inl (cD, 9, .inr (.inr (.inr (.inr (fun i => some ((va_up (va_up (va_up (va_up (va_up (va_up (va_up (va_up (va_up d_t_desks 0 (d_t_desks 1)) 1 (d_t_desks 2)) 2 (d_t_desks 3)) 3 (d_t_desks 4)) 4 (d_t_desks 5)) 5 (d_t_desks 6)) 6 (d_t_desks 7)) 7 (d_t_desks 8)) 8 (d_t_desks 0)) i))))))), ((d_t_desks 0), .inr (1, [.int (t_desks_genus 0), .int (t_desks_size 0), .ref (q_t_desks 0), .int (t_desks_limit 0), .long (t_desks_tree 0)])), ((q_t_desks 0), .inl (cI, 8, .inl (a_t_desks 0))), ((d_t_desks 1), .inr (1, [.int (t_desks_genus 1), .int (t_desks_size 1), .ref (q_t_desks 1), .int (t_desks_limit 1), .long (t_desks_tree 1)])), ((q_t_desks 1), .inl (cI, 8, .inl (a_t_desks 1))), ((d_t_desks 2), .inr (1, [.int (t_desks_genus 2), .int (t_desks_size 2), .ref (q_t_desks 2), .int (t_desks_limit 2), .long (t_desks_tree 2)])), ((q_t_desks 2), .inl (cI, 8, .inl (a_t_desks 2))), ((d_t_desks 3), .inr (1, [.int (t_desks_genus 3), .int (t_desks_size 3), .ref (q_t_desks 3), .int (t_desks_limit 3), .long (t_desks_tree 3)])), ((q_t_desks 3), .inl (cI, 8, .inl (a_t_desks 3))), ((d_t_desks 4), .inr (1, [.int (t_desks_genus 4), .int (t_desks_size 4), .ref (q_t_desks 4), .int (t_desks_limit 4), .long (t_desks_tree 4)])), ((q_t_desks 4), .inl (cI, 8, .inl (a_t_desks 4))), ((d_t_desks 5), .inr (1, [.int (t_desks_genus 5), .int (t_desks_size 5), .ref (q_t_desks 5), .int (t_desks_limit 5), .long (t_desks_tree 5)])), ((q_t_desks 5), .inl (cI, 8, .inl (a_t_desks 5))), ((d_t_desks 6), .inr (1, [.int (t_desks_genus 6), .int (t_desks_size 6), .ref (q_t_desks 6), .int (t_desks_limit 6), .long (t_desks_tree 6)])), ((q_t_desks 6), .inl (cI, 8, .inl (a_t_desks 6))), ((d_t_desks 7), .inr (1, [.int (t_desks_genus 7), .int (t_desks_size 7), .ref (q_t_desks 7), .int (t_desks_limit 7), .long (t_desks_tree 7)])), ((q_t_desks 7), .inl (cI, 8, .inl (a_t_desks 7))), ((d_t_desks 8), .inr (1, [.int (t_desks_genus 8), .int (t_desks_size 8), .ref (q_t_desks 8), .int (t_desks_limit 8), .long (t_desks_tree 8)])), ((q_t_desks 8), .inl (cI, 8, .inl (a_t_desks 8)))] := hD
  refine lv_aload_n hx hb dX0_dropOldest_43 rfl (lv_at hl 2 rfl) ?_
  refine lv_dup hx hb dX0_dropOldest_44 rfl ?_
  refine va_get (D := G) (ci := 0) (v := .int t_now) (C := RX0) (T := TX0) (N := 3) hx hb hts hinX0 hown hK hP 0 rfl rfl 1 (by decide) (hta _ mw_16) (fun _ h9 => h9) rfl dX0_dropOldest_45 ?_
  refine lv_iconst (v := (1 : Int32)) hx hb dX0_dropOldest_48 (by decide) ?_
  refine lv_isub hx hb dX0_dropOldest_49 ?_
  refine va_put (D := G) (ci := 0) (v := .int (t_now - (1 : Int32))) (ty := .int) (C := RX0) (T := TX0) (N := 3) hx hb hts hinX0 tyX0 tyX0_ok nmX0 hown hK hP hD hS 0 rfl rfl 1 (by decide) (hta _ mw_16) (fun _ h9 => h9) rfl (by decide +kernel) rfl rfl (Nat.le_of_ble_eq_true rfl) dX0_dropOldest_50 (fun H locs hP hD hS => ?_)
  have hP : va_P G vwCl [(h_t, .inr (0, [.ref h_t_desks, .int (t_now - (1 : Int32)), .int t_last])), (h_t_desks, .inl (cD, 9, .inr (.inr (.inr (.inr (fun i => some ((va_up (va_up (va_up (va_up (va_up (va_up (va_up (va_up (va_up d_t_desks 0 (d_t_desks 1)) 1 (d_t_desks 2)) 2 (d_t_desks 3)) 3 (d_t_desks 4)) 4 (d_t_desks 5)) 5 (d_t_desks 6)) 6 (d_t_desks 7)) 7 (d_t_desks 8)) 8 (d_t_desks 0)) i))))))), ((d_t_desks 0), .inr (1, [.int (t_desks_genus 0), .int (t_desks_size 0), .ref (q_t_desks 0), .int (t_desks_limit 0), .long (t_desks_tree 0)])), ((q_t_desks 0), .inl (cI, 8, .inl (a_t_desks 0))), ((d_t_desks 1), .inr (1, [.int (t_desks_genus 1), .int (t_desks_size 1), .ref (q_t_desks 1), .int (t_desks_limit 1), .long (t_desks_tree 1)])), ((q_t_desks 1), .inl (cI, 8, .inl (a_t_desks 1))), ((d_t_desks 2), .inr (1, [.int (t_desks_genus 2), .int (t_desks_size 2), .ref (q_t_desks 2), .int (t_desks_limit 2), .long (t_desks_tree 2)])), ((q_t_desks 2), .inl (cI, 8, .inl (a_t_desks 2))), ((d_t_desks 3), .inr (1, [.int (t_desks_genus 3), .int (t_desks_size 3), .ref (q_t_desks 3), .int (t_desks_limit 3), .long (t_desks_tree 3)])), ((q_t_desks 3), .inl (cI, 8, .inl (a_t_desks 3))), ((d_t_desks 4), .inr (1, [.int (t_desks_genus 4), .int (t_desks_size 4), .ref (q_t_desks 4), .int (t_desks_limit 4), .long (t_desks_tree 4)])), ((q_t_desks 4), .inl (cI, 8, .inl (a_t_desks 4))), ((d_t_desks 5), .inr (1, [.int (t_desks_genus 5), .int (t_desks_size 5), .ref (q_t_desks 5), .int (t_desks_limit 5), .long (t_desks_tree 5)])), ((q_t_desks 5), .inl (cI, 8, .inl (a_t_desks 5))), ((d_t_desks 6), .inr (1, [.int (t_desks_genus 6), .int (t_desks_size 6), .ref (q_t_desks 6), .int (t_desks_limit 6), .long (t_desks_tree 6)])), ((q_t_desks 6), .inl (cI, 8, .inl (a_t_desks 6))), ((d_t_desks 7), .inr (1, [.int (t_desks_genus 7), .int (t_desks_size 7), .ref (q_t_desks 7), .int (t_desks_limit 7), .long (t_desks_tree 7)])), ((q_t_desks 7), .inl (cI, 8, .inl (a_t_desks 7))), ((d_t_desks 8), .inr (1, [.int (t_desks_genus 8), .int (t_desks_size 8), .ref (q_t_desks 8), .int (t_desks_limit 8), .long (t_desks_tree 8)])), ((q_t_desks 8), .inl (cI, 8, .inl (a_t_desks 8)))] H := hP
  have hD : va_D A [(h_t, .inr (0, [.ref h_t_desks, .int (t_now - (1 : Int32)), .int t_last])), (h_t_desks, .inl (cD, 9, .inr (.inr (.inr (.inr (fun i => some ((va_up (va_up (va_up (va_up (va_up (va_up (va_up (va_up (va_up d_t_desks 0 (d_t_desks 1)) 1 (d_t_desks 2)) 2 (d_t_desks 3)) 3 (d_t_desks 4)) 4 (d_t_desks 5)) 5 (d_t_desks 6)) 6 (d_t_desks 7)) 7 (d_t_desks 8)) 8 (d_t_desks 0)) i))))))), ((d_t_desks 0), .inr (1, [.int (t_desks_genus 0), .int (t_desks_size 0), .ref (q_t_desks 0), .int (t_desks_limit 0), .long (t_desks_tree 0)])), ((q_t_desks 0), .inl (cI, 8, .inl (a_t_desks 0))), ((d_t_desks 1), .inr (1, [.int (t_desks_genus 1), .int (t_desks_size 1), .ref (q_t_desks 1), .int (t_desks_limit 1), .long (t_desks_tree 1)])), ((q_t_desks 1), .inl (cI, 8, .inl (a_t_desks 1))), ((d_t_desks 2), .inr (1, [.int (t_desks_genus 2), .int (t_desks_size 2), .ref (q_t_desks 2), .int (t_desks_limit 2), .long (t_desks_tree 2)])), ((q_t_desks 2), .inl (cI, 8, .inl (a_t_desks 2))), ((d_t_desks 3), .inr (1, [.int (t_desks_genus 3), .int (t_desks_size 3), .ref (q_t_desks 3), .int (t_desks_limit 3), .long (t_desks_tree 3)])), ((q_t_desks 3), .inl (cI, 8, .inl (a_t_desks 3))), ((d_t_desks 4), .inr (1, [.int (t_desks_genus 4), .int (t_desks_size 4), .ref (q_t_desks 4), .int (t_desks_limit 4), .long (t_desks_tree 4)])), ((q_t_desks 4), .inl (cI, 8, .inl (a_t_desks 4))), ((d_t_desks 5), .inr (1, [.int (t_desks_genus 5), .int (t_desks_size 5), .ref (q_t_desks 5), .int (t_desks_limit 5), .long (t_desks_tree 5)])), ((q_t_desks 5), .inl (cI, 8, .inl (a_t_desks 5))), ((d_t_desks 6), .inr (1, [.int (t_desks_genus 6), .int (t_desks_size 6), .ref (q_t_desks 6), .int (t_desks_limit 6), .long (t_desks_tree 6)])), ((q_t_desks 6), .inl (cI, 8, .inl (a_t_desks 6))), ((d_t_desks 7), .inr (1, [.int (t_desks_genus 7), .int (t_desks_size 7), .ref (q_t_desks 7), .int (t_desks_limit 7), .long (t_desks_tree 7)])), ((q_t_desks 7), .inl (cI, 8, .inl (a_t_desks 7))), ((d_t_desks 8), .inr (1, [.int (t_desks_genus 8), .int (t_desks_size 8), .ref (q_t_desks 8), .int (t_desks_limit 8), .long (t_desks_tree 8)])), ((q_t_desks 8), .inl (cI, 8, .inl (a_t_desks 8)))] := hD
  rw [k_rot9] at hP hD
  have hP : va_P G vwCl [(h_t, .inr (0, [.ref h_t_desks, .int (t_now - (1 : Int32)), .int t_last])), (h_t_desks, .inl (cD, 9, .inr (.inr (.inr (.inr (fun i => some ((rot9 d_t_desks) i))))))), ((d_t_desks 0), .inr (1, [.int (t_desks_genus 0), .int (t_desks_size 0), .ref (q_t_desks 0), .int (t_desks_limit 0), .long (t_desks_tree 0)])), ((q_t_desks 0), .inl (cI, 8, .inl (a_t_desks 0))), ((d_t_desks 1), .inr (1, [.int (t_desks_genus 1), .int (t_desks_size 1), .ref (q_t_desks 1), .int (t_desks_limit 1), .long (t_desks_tree 1)])), ((q_t_desks 1), .inl (cI, 8, .inl (a_t_desks 1))), ((d_t_desks 2), .inr (1, [.int (t_desks_genus 2), .int (t_desks_size 2), .ref (q_t_desks 2), .int (t_desks_limit 2), .long (t_desks_tree 2)])), ((q_t_desks 2), .inl (cI, 8, .inl (a_t_desks 2))), ((d_t_desks 3), .inr (1, [.int (t_desks_genus 3), .int (t_desks_size 3), .ref (q_t_desks 3), .int (t_desks_limit 3), .long (t_desks_tree 3)])), ((q_t_desks 3), .inl (cI, 8, .inl (a_t_desks 3))), ((d_t_desks 4), .inr (1, [.int (t_desks_genus 4), .int (t_desks_size 4), .ref (q_t_desks 4), .int (t_desks_limit 4), .long (t_desks_tree 4)])), ((q_t_desks 4), .inl (cI, 8, .inl (a_t_desks 4))), ((d_t_desks 5), .inr (1, [.int (t_desks_genus 5), .int (t_desks_size 5), .ref (q_t_desks 5), .int (t_desks_limit 5), .long (t_desks_tree 5)])), ((q_t_desks 5), .inl (cI, 8, .inl (a_t_desks 5))), ((d_t_desks 6), .inr (1, [.int (t_desks_genus 6), .int (t_desks_size 6), .ref (q_t_desks 6), .int (t_desks_limit 6), .long (t_desks_tree 6)])), ((q_t_desks 6), .inl (cI, 8, .inl (a_t_desks 6))), ((d_t_desks 7), .inr (1, [.int (t_desks_genus 7), .int (t_desks_size 7), .ref (q_t_desks 7), .int (t_desks_limit 7), .long (t_desks_tree 7)])), ((q_t_desks 7), .inl (cI, 8, .inl (a_t_desks 7))), ((d_t_desks 8), .inr (1, [.int (t_desks_genus 8), .int (t_desks_size 8), .ref (q_t_desks 8), .int (t_desks_limit 8), .long (t_desks_tree 8)])), ((q_t_desks 8), .inl (cI, 8, .inl (a_t_desks 8)))] H := hP
  have hD : va_D A [(h_t, .inr (0, [.ref h_t_desks, .int (t_now - (1 : Int32)), .int t_last])), (h_t_desks, .inl (cD, 9, .inr (.inr (.inr (.inr (fun i => some ((rot9 d_t_desks) i))))))), ((d_t_desks 0), .inr (1, [.int (t_desks_genus 0), .int (t_desks_size 0), .ref (q_t_desks 0), .int (t_desks_limit 0), .long (t_desks_tree 0)])), ((q_t_desks 0), .inl (cI, 8, .inl (a_t_desks 0))), ((d_t_desks 1), .inr (1, [.int (t_desks_genus 1), .int (t_desks_size 1), .ref (q_t_desks 1), .int (t_desks_limit 1), .long (t_desks_tree 1)])), ((q_t_desks 1), .inl (cI, 8, .inl (a_t_desks 1))), ((d_t_desks 2), .inr (1, [.int (t_desks_genus 2), .int (t_desks_size 2), .ref (q_t_desks 2), .int (t_desks_limit 2), .long (t_desks_tree 2)])), ((q_t_desks 2), .inl (cI, 8, .inl (a_t_desks 2))), ((d_t_desks 3), .inr (1, [.int (t_desks_genus 3), .int (t_desks_size 3), .ref (q_t_desks 3), .int (t_desks_limit 3), .long (t_desks_tree 3)])), ((q_t_desks 3), .inl (cI, 8, .inl (a_t_desks 3))), ((d_t_desks 4), .inr (1, [.int (t_desks_genus 4), .int (t_desks_size 4), .ref (q_t_desks 4), .int (t_desks_limit 4), .long (t_desks_tree 4)])), ((q_t_desks 4), .inl (cI, 8, .inl (a_t_desks 4))), ((d_t_desks 5), .inr (1, [.int (t_desks_genus 5), .int (t_desks_size 5), .ref (q_t_desks 5), .int (t_desks_limit 5), .long (t_desks_tree 5)])), ((q_t_desks 5), .inl (cI, 8, .inl (a_t_desks 5))), ((d_t_desks 6), .inr (1, [.int (t_desks_genus 6), .int (t_desks_size 6), .ref (q_t_desks 6), .int (t_desks_limit 6), .long (t_desks_tree 6)])), ((q_t_desks 6), .inl (cI, 8, .inl (a_t_desks 6))), ((d_t_desks 7), .inr (1, [.int (t_desks_genus 7), .int (t_desks_size 7), .ref (q_t_desks 7), .int (t_desks_limit 7), .long (t_desks_tree 7)])), ((q_t_desks 7), .inl (cI, 8, .inl (a_t_desks 7))), ((d_t_desks 8), .inr (1, [.int (t_desks_genus 8), .int (t_desks_size 8), .ref (q_t_desks 8), .int (t_desks_limit 8), .long (t_desks_tree 8)])), ((q_t_desks 8), .inl (cI, 8, .inl (a_t_desks 8)))] := hD
  have hP : va_P G vwCl [(h_t, .inr (0, [.ref h_t_desks, .int (t_now - (1 : Int32)), .int t_last])), (h_t_desks, .inl (cD, 9, .inr (.inr (.inr (.inr (fun i => some ((rot9 d_t_desks) i))))))), (((rot9 d_t_desks) 0), .inr (1, [.int ((rot9 t_desks_genus) 0), .int ((rot9 t_desks_size) 0), .ref ((rot9 q_t_desks) 0), .int ((rot9 t_desks_limit) 0), .long ((rot9 t_desks_tree) 0)])), (((rot9 q_t_desks) 0), .inl (cI, 8, .inl ((rot9 a_t_desks) 0))), (((rot9 d_t_desks) 1), .inr (1, [.int ((rot9 t_desks_genus) 1), .int ((rot9 t_desks_size) 1), .ref ((rot9 q_t_desks) 1), .int ((rot9 t_desks_limit) 1), .long ((rot9 t_desks_tree) 1)])), (((rot9 q_t_desks) 1), .inl (cI, 8, .inl ((rot9 a_t_desks) 1))), (((rot9 d_t_desks) 2), .inr (1, [.int ((rot9 t_desks_genus) 2), .int ((rot9 t_desks_size) 2), .ref ((rot9 q_t_desks) 2), .int ((rot9 t_desks_limit) 2), .long ((rot9 t_desks_tree) 2)])), (((rot9 q_t_desks) 2), .inl (cI, 8, .inl ((rot9 a_t_desks) 2))), (((rot9 d_t_desks) 3), .inr (1, [.int ((rot9 t_desks_genus) 3), .int ((rot9 t_desks_size) 3), .ref ((rot9 q_t_desks) 3), .int ((rot9 t_desks_limit) 3), .long ((rot9 t_desks_tree) 3)])), (((rot9 q_t_desks) 3), .inl (cI, 8, .inl ((rot9 a_t_desks) 3))), (((rot9 d_t_desks) 4), .inr (1, [.int ((rot9 t_desks_genus) 4), .int ((rot9 t_desks_size) 4), .ref ((rot9 q_t_desks) 4), .int ((rot9 t_desks_limit) 4), .long ((rot9 t_desks_tree) 4)])), (((rot9 q_t_desks) 4), .inl (cI, 8, .inl ((rot9 a_t_desks) 4))), (((rot9 d_t_desks) 5), .inr (1, [.int ((rot9 t_desks_genus) 5), .int ((rot9 t_desks_size) 5), .ref ((rot9 q_t_desks) 5), .int ((rot9 t_desks_limit) 5), .long ((rot9 t_desks_tree) 5)])), (((rot9 q_t_desks) 5), .inl (cI, 8, .inl ((rot9 a_t_desks) 5))), (((rot9 d_t_desks) 6), .inr (1, [.int ((rot9 t_desks_genus) 6), .int ((rot9 t_desks_size) 6), .ref ((rot9 q_t_desks) 6), .int ((rot9 t_desks_limit) 6), .long ((rot9 t_desks_tree) 6)])), (((rot9 q_t_desks) 6), .inl (cI, 8, .inl ((rot9 a_t_desks) 6))), (((rot9 d_t_desks) 7), .inr (1, [.int ((rot9 t_desks_genus) 7), .int ((rot9 t_desks_size) 7), .ref ((rot9 q_t_desks) 7), .int ((rot9 t_desks_limit) 7), .long ((rot9 t_desks_tree) 7)])), (((rot9 q_t_desks) 7), .inl (cI, 8, .inl ((rot9 a_t_desks) 7))), (((rot9 d_t_desks) 8), .inr (1, [.int ((rot9 t_desks_genus) 8), .int ((rot9 t_desks_size) 8), .ref ((rot9 q_t_desks) 8), .int ((rot9 t_desks_limit) 8), .long ((rot9 t_desks_tree) 8)])), (((rot9 q_t_desks) 8), .inl (cI, 8, .inl ((rot9 a_t_desks) 8)))] H := hP.sub [0, 1, 4, 5, 6, 7, 8, 9, 10, 11, 12, 13, 14, 15, 16, 17, 18, 19, 2, 3] rfl
  have hD : va_D A [(h_t, .inr (0, [.ref h_t_desks, .int (t_now - (1 : Int32)), .int t_last])), (h_t_desks, .inl (cD, 9, .inr (.inr (.inr (.inr (fun i => some ((rot9 d_t_desks) i))))))), (((rot9 d_t_desks) 0), .inr (1, [.int ((rot9 t_desks_genus) 0), .int ((rot9 t_desks_size) 0), .ref ((rot9 q_t_desks) 0), .int ((rot9 t_desks_limit) 0), .long ((rot9 t_desks_tree) 0)])), (((rot9 q_t_desks) 0), .inl (cI, 8, .inl ((rot9 a_t_desks) 0))), (((rot9 d_t_desks) 1), .inr (1, [.int ((rot9 t_desks_genus) 1), .int ((rot9 t_desks_size) 1), .ref ((rot9 q_t_desks) 1), .int ((rot9 t_desks_limit) 1), .long ((rot9 t_desks_tree) 1)])), (((rot9 q_t_desks) 1), .inl (cI, 8, .inl ((rot9 a_t_desks) 1))), (((rot9 d_t_desks) 2), .inr (1, [.int ((rot9 t_desks_genus) 2), .int ((rot9 t_desks_size) 2), .ref ((rot9 q_t_desks) 2), .int ((rot9 t_desks_limit) 2), .long ((rot9 t_desks_tree) 2)])), (((rot9 q_t_desks) 2), .inl (cI, 8, .inl ((rot9 a_t_desks) 2))), (((rot9 d_t_desks) 3), .inr (1, [.int ((rot9 t_desks_genus) 3), .int ((rot9 t_desks_size) 3), .ref ((rot9 q_t_desks) 3), .int ((rot9 t_desks_limit) 3), .long ((rot9 t_desks_tree) 3)])), (((rot9 q_t_desks) 3), .inl (cI, 8, .inl ((rot9 a_t_desks) 3))), (((rot9 d_t_desks) 4), .inr (1, [.int ((rot9 t_desks_genus) 4), .int ((rot9 t_desks_size) 4), .ref ((rot9 q_t_desks) 4), .int ((rot9 t_desks_limit) 4), .long ((rot9 t_desks_tree) 4)])), (((rot9 q_t_desks) 4), .inl (cI, 8, .inl ((rot9 a_t_desks) 4))), (((rot9 d_t_desks) 5), .inr (1, [.int ((rot9 t_desks_genus) 5), .int ((rot9 t_desks_size) 5), .ref ((rot9 q_t_desks) 5), .int ((rot9 t_desks_limit) 5), .long ((rot9 t_desks_tree) 5)])), (((rot9 q_t_desks) 5), .inl (cI, 8, .inl ((rot9 a_t_desks) 5))), (((rot9 d_t_desks) 6), .inr (1, [.int ((rot9 t_desks_genus) 6), .int ((rot9 t_desks_size) 6), .ref ((rot9 q_t_desks) 6), .int ((rot9 t_desks_limit) 6), .long ((rot9 t_desks_tree) 6)])), (((rot9 q_t_desks) 6), .inl (cI, 8, .inl ((rot9 a_t_desks) 6))), (((rot9 d_t_desks) 7), .inr (1, [.int ((rot9 t_desks_genus) 7), .int ((rot9 t_desks_size) 7), .ref ((rot9 q_t_desks) 7), .int ((rot9 t_desks_limit) 7), .long ((rot9 t_desks_tree) 7)])), (((rot9 q_t_desks) 7), .inl (cI, 8, .inl ((rot9 a_t_desks) 7))), (((rot9 d_t_desks) 8), .inr (1, [.int ((rot9 t_desks_genus) 8), .int ((rot9 t_desks_size) 8), .ref ((rot9 q_t_desks) 8), .int ((rot9 t_desks_limit) 8), .long ((rot9 t_desks_tree) 8)])), (((rot9 q_t_desks) 8), .inl (cI, 8, .inl ((rot9 a_t_desks) 8)))] := hD.sub [0, 1, 4, 5, 6, 7, 8, 9, 10, 11, 12, 13, 14, 15, 16, 17, 18, 19, 2, 3] (by decide) rfl
  have h9 := Option.some.inj h
  have e9 : (t_now - (1 : Int32)) = w0 := congrArg (fun z9 => z9.1) h9
  rw [← e9]
  have e9 : (rot9 a_t_desks) = w1 := congrArg (fun z9 => z9.2.1) h9
  rw [← e9]
  have e9 : (rot9 d_t_desks) = w2 := congrArg (fun z9 => z9.2.2.1) h9
  rw [← e9]
  have e9 : (rot9 t_desks_genus) = w3 := congrArg (fun z9 => z9.2.2.2.1) h9
  rw [← e9]
  have e9 : (rot9 t_desks_limit) = w4 := congrArg (fun z9 => z9.2.2.2.2.1) h9
  rw [← e9]
  have e9 : (rot9 q_t_desks) = w5 := congrArg (fun z9 => z9.2.2.2.2.2.1) h9
  rw [← e9]
  have e9 : (rot9 t_desks_size) = w6 := congrArg (fun z9 => z9.2.2.2.2.2.2.1) h9
  rw [← e9]
  have e9 : (rot9 t_desks_tree) = w7 := congrArg (fun z9 => z9.2.2.2.2.2.2.2) h9
  rw [← e9]
  exact k_vretP hx hb hr hlocks hD hP hS dX0_dropOldest_53

/-! X1_copyFrom -/
set_option maxHeartbeats 4000000 in
set_option maxRecDepth 100000 in
theorem tK_X1_copyFrom_18_42 {l : Launch} {G : va_G} {cI cJ cD cH : ClassId} {h_t : Nat} {h_p0 : Nat} {h_t_powers : Nat} {h_p0_powers : Nat} {t_limit : Int32} {t_tree : Int64} {p0_genus : Int32} {p0_size : Int32} {p0_limit : Int32} {p0_tree : Int64} {a_p0_powers : Nat → Int32} {w0 : Nat → Int32} {w1 : Int32} {w2 : Int32} {w3 : Int32} {w4 : Int64} {p : Program} {e : Env} {s : State} {m : MethodId} {below : List Frame} {meth : Method} {c : Code} {A : Nat → Prop} (hx : p.tables.exec = Jvm.exec) (hb : c.code = cX1_copyFrom) (hr : meth.sig.returnType = none) (hml : c.maxLocals = 3) (hts : ∀ w ∈ wsX1_copyFrom, w.before ([.ref h_t, .ref h_p0] : List Value).toArray s = true) (hown : s.vm.findClass RX1 = some m.cls) (hlocks : meth.locks = false) (hK : va_K G vwCl (k_T cI cJ cD cH) s) (hA : ∀ q : Nat, s.heap.size ≤ q → A q) : ∀  (vK18_42_0 : Nat → Int32) (H : Heap) (locs : List Loc) (ls : Array Slot), va_P G vwCl [(h_t, .inr (1, [.int p0_genus, .int p0_size, .ref h_t_powers, .int t_limit, .long t_tree])), (h_p0, .inr (1, [.int p0_genus, .int p0_size, .ref h_p0_powers, .int p0_limit, .long p0_tree])), (h_t_powers, .inl (cI, 8, .inl vK18_42_0)), (h_p0_powers, .inl (cI, 8, .inl a_p0_powers))] H → va_D A [(h_t, .inr (1, [.int p0_genus, .int p0_size, .ref h_t_powers, .int t_limit, .long t_tree])), (h_p0, .inr (1, [.int p0_genus, .int p0_size, .ref h_p0_powers, .int p0_limit, .long p0_tree])), (h_t_powers, .inl (cI, 8, .inl vK18_42_0)), (h_p0_powers, .inl (cI, 8, .inl a_p0_powers))] → va_S A s.heap H locs → lv_has ls 3 [(0, .ref h_t), (1, .ref h_p0)] → K_X1_copyFrom_18_42 p0_genus p0_size p0_limit p0_tree vK18_42_0 = some (w0, w1, w2, w3, w4) → W p l e (headSpec wsX1_copyFrom ({ frames := 0, cells := 0, slots := 0, locals := 0 })).room s m ([.ref h_t, .ref h_p0] : List Value).toArray below meth c H locs 0 0 (MQ below (va_Qv (fun (_ : Unit) => True) (fun _ t => va_P G vwCl [(h_t, .inr (1, [.int w1, .int w2, .ref h_t_powers, .int w3, .long w4])), (h_p0, .inr (1, [.int p0_genus, .int p0_size, .ref h_p0_powers, .int p0_limit, .long p0_tree])), (h_t_powers, .inl (cI, 8, .inl w0)), (h_p0_powers, .inl (cI, 8, .inl a_p0_powers))] t.heap) A) ([.ref h_t, .ref h_p0] : List Value).toArray s 0 0 A) (F0 m 42 ls []) := by
  have hta : ∀ w ∈ wA, w.before ([.ref h_t, .ref h_p0] : List Value).toArray s = true := hta_of hts
  have hinX1 : ∀ w ∈ wsX10, w ∈ wsX1_copyFrom := hin_of in_X1
  intro vK18_42_0 H locs ls hP hD hS hl h
  unfold K_X1_copyFrom_18_42 at h
  refine lv_aload_n hx hb dX1_copyFrom_42 rfl (lv_at hl 0 rfl) ?_
  refine lv_aload_n hx hb dX1_copyFrom_43 rfl (lv_at hl 1 rfl) ?_
  refine va_get (D := G) (ci := 1) (v := .int p0_limit) (C := RX1) (T := TX1) (N := 5) hx hb hts hinX1 hown hK hP 1 rfl rfl 3 (by decide) (hta _ mw_14) (fun _ h9 => h9) rfl dX1_copyFrom_44 ?_
  refine va_put (D := G) (ci := 1) (v := .int p0_limit) (ty := .int) (C := RX1) (T := TX1) (N := 5) hx hb hts hinX1 tyX1 tyX1_ok nmX1 hown hK hP hD hS 0 rfl rfl 3 (by decide) (hta _ mw_14) (fun _ h9 => h9) rfl (by decide +kernel) rfl rfl (Nat.le_of_ble_eq_true rfl) dX1_copyFrom_47 (fun H locs hP hD hS => ?_)
  have hP : va_P G vwCl [(h_t, .inr (1, [.int p0_genus, .int p0_size, .ref h_t_powers, .int p0_limit, .long t_tree])), (h_p0, .inr (1, [.int p0_genus, .int p0_size, .ref h_p0_powers, .int p0_limit, .long p0_tree])), (h_t_powers, .inl (cI, 8, .inl vK18_42_0)), (h_p0_powers, .inl (cI, 8, .inl a_p0_powers))] H := hP
  have hD : va_D A [(h_t, .inr (1, [.int p0_genus, .int p0_size, .ref h_t_powers, .int p0_limit, .long t_tree])), (h_p0, .inr (1, [.int p0_genus, .int p0_size, .ref h_p0_powers, .int p0_limit, .long p0_tree])), (h_t_powers, .inl (cI, 8, .inl vK18_42_0)), (h_p0_powers, .inl (cI, 8, .inl a_p0_powers))] := hD
  refine lv_aload_n hx hb dX1_copyFrom_50 rfl (lv_at hl 0 rfl) ?_
  refine lv_aload_n hx hb dX1_copyFrom_51 rfl (lv_at hl 1 rfl) ?_
  refine va_get (D := G) (ci := 1) (v := .long p0_tree) (C := RX1) (T := TX1) (N := 5) hx hb hts hinX1 hown hK hP 1 rfl rfl 4 (by decide) (hta _ mw_30) (fun _ h9 => h9) rfl dX1_copyFrom_52 ?_
  refine va_put (D := G) (ci := 1) (v := .long p0_tree) (ty := .long) (C := RX1) (T := TX1) (N := 5) hx hb hts hinX1 tyX1 tyX1_ok nmX1 hown hK hP hD hS 0 rfl rfl 4 (by decide) (hta _ mw_30) (fun _ h9 => h9) rfl (by decide +kernel) rfl rfl (Nat.le_of_ble_eq_true rfl) dX1_copyFrom_55 (fun H locs hP hD hS => ?_)
  have hP : va_P G vwCl [(h_t, .inr (1, [.int p0_genus, .int p0_size, .ref h_t_powers, .int p0_limit, .long p0_tree])), (h_p0, .inr (1, [.int p0_genus, .int p0_size, .ref h_p0_powers, .int p0_limit, .long p0_tree])), (h_t_powers, .inl (cI, 8, .inl vK18_42_0)), (h_p0_powers, .inl (cI, 8, .inl a_p0_powers))] H := hP
  have hD : va_D A [(h_t, .inr (1, [.int p0_genus, .int p0_size, .ref h_t_powers, .int p0_limit, .long p0_tree])), (h_p0, .inr (1, [.int p0_genus, .int p0_size, .ref h_p0_powers, .int p0_limit, .long p0_tree])), (h_t_powers, .inl (cI, 8, .inl vK18_42_0)), (h_p0_powers, .inl (cI, 8, .inl a_p0_powers))] := hD
  have h9 := Option.some.inj h
  have e9 : vK18_42_0 = w0 := congrArg (fun z9 => z9.1) h9
  rw [← e9]
  have e9 : p0_genus = w1 := congrArg (fun z9 => z9.2.1) h9
  rw [← e9]
  have e9 : p0_size = w2 := congrArg (fun z9 => z9.2.2.1) h9
  rw [← e9]
  have e9 : p0_limit = w3 := congrArg (fun z9 => z9.2.2.2.1) h9
  rw [← e9]
  have e9 : p0_tree = w4 := congrArg (fun z9 => z9.2.2.2.2) h9
  rw [← e9]
  exact k_vret hx hb hr hlocks hP hS dX1_copyFrom_58
set_option maxHeartbeats 4000000 in
set_option maxRecDepth 100000 in
theorem c_X1_copyFrom (l : Launch) (G : va_G) (cI cJ cD cH : ClassId) (sz : Nat) (h_t : Nat) (h_p0 : Nat) (h_t_powers : Nat) (h_p0_powers : Nat) (t_genus : Int32) (t_size : Int32) (t_limit : Int32) (t_tree : Int64) (p0_genus : Int32) (p0_size : Int32) (p0_limit : Int32) (p0_tree : Int64) (a_t_powers : Nat → Int32) (a_p0_powers : Nat → Int32) (w0 : Nat → Int32) (w1 : Int32) (w2 : Int32) (w3 : Int32) (w4 : Int64) (hF : F_X1_copyFrom p0_genus p0_size p0_limit p0_tree a_t_powers a_p0_powers = some (w0, w1, w2, w3, w4)) : Met l yX1_copyFrom wsX1_copyFrom ({ frames := 0, cells := 0, slots := 0, locals := 0 }) (k_pre G (k_T cI cJ cD cH) [(h_t, .inr (1, [.int t_genus, .int t_size, .ref h_t_powers, .int t_limit, .long t_tree])), (h_p0, .inr (1, [.int p0_genus, .int p0_size, .ref h_p0_powers, .int p0_limit, .long p0_tree])), (h_t_powers, .inl (cI, 8, .inl a_t_powers)), (h_p0_powers, .inl (cI, 8, .inl a_p0_powers))] sz [.ref h_t, .ref h_p0]) (va_Qv (fun (_ : Unit) => True) (fun _ t => va_P G vwCl [(h_t, .inr (1, [.int w1, .int w2, .ref h_t_powers, .int w3, .long w4])), (h_p0, .inr (1, [.int p0_genus, .int p0_size, .ref h_p0_powers, .int p0_limit, .long p0_tree])), (h_t_powers, .inl (cI, 8, .inl w0)), (h_p0_powers, .inl (cI, 8, .inl a_p0_powers))] t.heap) (va_A [(h_t, .inr (1, [.int t_genus, .int t_size, .ref h_t_powers, .int t_limit, .long t_tree])), (h_p0, .inr (1, [.int p0_genus, .int p0_size, .ref h_p0_powers, .int p0_limit, .long p0_tree])), (h_t_powers, .inl (cI, 8, .inl a_t_powers)), (h_p0_powers, .inl (cI, 8, .inl a_p0_powers))] sz)) 0 0 (va_A [(h_t, .inr (1, [.int t_genus, .int t_size, .ref h_t_powers, .int t_limit, .long t_tree])), (h_p0, .inr (1, [.int p0_genus, .int p0_size, .ref h_p0_powers, .int p0_limit, .long p0_tree])), (h_t_powers, .inl (cI, 8, .inl a_t_powers)), (h_p0_powers, .inl (cI, 8, .inl a_p0_powers))] sz) := by
  refine Met.ofW (cc := cX1_copyFrom) (maxL := 3) (ret := none) (by decide) rfl ?_
  intro p e s m args below meth c s₁ B hml hv
  obtain ⟨rfl, hsz, hP, hK, hD0⟩ := hv
  have hx := B.exec
  have hb := B.bytes
  have hr := B.returns
  have hts := atoms_spec (ws := wsX1_copyFrom) B.pre
  have hta : ∀ w ∈ wA, w.before ([.ref h_t, .ref h_p0] : List Value).toArray s = true := hta_of hts
  have hown : s.vm.findClass RX1 = some m.cls := findClass_of_methodNamed B.named
  have hlocks := B.notSynchronized
  subst hsz
  have hD := hD0.self (sz := s.heap.size)
  generalize hAe : va_A [(h_t, .inr (1, [.int t_genus, .int t_size, .ref h_t_powers, .int t_limit, .long t_tree])), (h_p0, .inr (1, [.int p0_genus, .int p0_size, .ref h_p0_powers, .int p0_limit, .long p0_tree])), (h_t_powers, .inl (cI, 8, .inl a_t_powers)), (h_p0_powers, .inl (cI, 8, .inl a_p0_powers))] s.heap.size = A at hD ⊢
  have hA : ∀ q : Nat, s.heap.size ≤ q → A q := fun q h => by rw [← hAe]; exact Or.inr h
  have hS : va_S A s.heap s.heap [] := va_S.rf
  have hl := lv_entry ([.ref h_t, .ref h_p0]) (n := 3) (Nat.le_of_ble_eq_true rfl)
  rw [lg_entry_eq]
  generalize (lg_sl ([.ref h_t, .ref h_p0]) ++ List.replicate (3 - (lg_sl ([.ref h_t, .ref h_p0])).length) Slot.unset).toArray = ls at hl ⊢
  have hl : lv_has ls 3 [(0, .ref h_t), (1, .ref h_p0)] := hl
  have hinX1 : ∀ w ∈ wsX10, w ∈ wsX1_copyFrom := hin_of in_X1
  have h := hF
  unfold F_X1_copyFrom at h
  refine lv_aload_n hx hb dX1_copyFrom_0 rfl (lv_at hl 0 rfl) ?_
  refine lv_aload_n hx hb dX1_copyFrom_1 rfl (lv_at hl 1 rfl) ?_
  refine va_get (D := G) (ci := 1) (v := .int p0_genus) (C := RX1) (T := TX1) (N := 5) hx hb hts hinX1 hown hK hP 1 rfl rfl 0 (by decide) (hta _ mw_29) (fun _ h9 => h9) rfl dX1_copyFrom_2 ?_
  refine va_put (D := G) (ci := 1) (v := .int p0_genus) (ty := .int) (C := RX1) (T := TX1) (N := 5) hx hb hts hinX1 tyX1 tyX1_ok nmX1 hown hK hP hD hS 0 rfl rfl 0 (by decide) (hta _ mw_29) (fun _ h9 => h9) rfl (by decide +kernel) rfl rfl (Nat.le_of_ble_eq_true rfl) dX1_copyFrom_5 (fun H locs hP hD hS => ?_)
  have hP : va_P G vwCl [(h_t, .inr (1, [.int p0_genus, .int t_size, .ref h_t_powers, .int t_limit, .long t_tree])), (h_p0, .inr (1, [.int p0_genus, .int p0_size, .ref h_p0_powers, .int p0_limit, .long p0_tree])), (h_t_powers, .inl (cI, 8, .inl a_t_powers)), (h_p0_powers, .inl (cI, 8, .inl a_p0_powers))] H := hP
  have hD : va_D A [(h_t, .inr (1, [.int p0_genus, .int t_size, .ref h_t_powers, .int t_limit, .long t_tree])), (h_p0, .inr (1, [.int p0_genus, .int p0_size, .ref h_p0_powers, .int p0_limit, .long p0_tree])), (h_t_powers, .inl (cI, 8, .inl a_t_powers)), (h_p0_powers, .inl (cI, 8, .inl a_p0_powers))] := hD
  refine lv_aload_n hx hb dX1_copyFrom_8 rfl (lv_at hl 0 rfl) ?_
  refine lv_aload_n hx hb dX1_copyFrom_9 rfl (lv_at hl 1 rfl) ?_
  refine va_get (D := G) (ci := 1) (v := .int p0_size) (C := RX1) (T := TX1) (N := 5) hx hb hts hinX1 hown hK hP 1 rfl rfl 1 (by decide) (hta _ mw_31) (fun _ h9 => h9) rfl dX1_copyFrom_10 ?_
  refine va_put (D := G) (ci := 1) (v := .int p0_size) (ty := .int) (C := RX1) (T := TX1) (N := 5) hx hb hts hinX1 tyX1 tyX1_ok nmX1 hown hK hP hD hS 0 rfl rfl 1 (by decide) (hta _ mw_31) (fun _ h9 => h9) rfl (by decide +kernel) rfl rfl (Nat.le_of_ble_eq_true rfl) dX1_copyFrom_13 (fun H locs hP hD hS => ?_)
  have hP : va_P G vwCl [(h_t, .inr (1, [.int p0_genus, .int p0_size, .ref h_t_powers, .int t_limit, .long t_tree])), (h_p0, .inr (1, [.int p0_genus, .int p0_size, .ref h_p0_powers, .int p0_limit, .long p0_tree])), (h_t_powers, .inl (cI, 8, .inl a_t_powers)), (h_p0_powers, .inl (cI, 8, .inl a_p0_powers))] H := hP
  have hD : va_D A [(h_t, .inr (1, [.int p0_genus, .int p0_size, .ref h_t_powers, .int t_limit, .long t_tree])), (h_p0, .inr (1, [.int p0_genus, .int p0_size, .ref h_p0_powers, .int p0_limit, .long p0_tree])), (h_t_powers, .inl (cI, 8, .inl a_t_powers)), (h_p0_powers, .inl (cI, 8, .inl a_p0_powers))] := hD
  refine lv_iconst (v := (0 : Int32)) hx hb dX1_copyFrom_16 (by decide) ?_
  refine lv_istore_n (lv' := [(2, .int (0 : Int32)), (0, .ref h_t), (1, .ref h_p0)]) hx hb dX1_copyFrom_17 rfl hl (by decide) rfl (fun ls hl => ?_)
  have hL18 : ∀ (n18 : Nat) (vL18_0 : Nat → Int32) (vL18_1 : Int32) (H : Heap) (locs : List Loc) (ls : Array Slot), va_P G vwCl [(h_t, .inr (1, [.int p0_genus, .int p0_size, .ref h_t_powers, .int t_limit, .long t_tree])), (h_p0, .inr (1, [.int p0_genus, .int p0_size, .ref h_p0_powers, .int p0_limit, .long p0_tree])), (h_t_powers, .inl (cI, 8, .inl vL18_0)), (h_p0_powers, .inl (cI, 8, .inl a_p0_powers))] H → va_D A [(h_t, .inr (1, [.int p0_genus, .int p0_size, .ref h_t_powers, .int t_limit, .long t_tree])), (h_p0, .inr (1, [.int p0_genus, .int p0_size, .ref h_p0_powers, .int p0_limit, .long p0_tree])), (h_t_powers, .inl (cI, 8, .inl vL18_0)), (h_p0_powers, .inl (cI, 8, .inl a_p0_powers))] → va_S A s.heap H locs → lv_has ls 3 [(0, .ref h_t), (1, .ref h_p0), (2, .int vL18_1)] → wq2 (B_X1_copyFrom_18 a_p0_powers (K_X1_copyFrom_18_42 p0_genus p0_size p0_limit p0_tree)) n18 vL18_0 vL18_1 = some (w0, w1, w2, w3, w4) → W p l e (headSpec wsX1_copyFrom ({ frames := 0, cells := 0, slots := 0, locals := 0 })).room s m ([.ref h_t, .ref h_p0] : List Value).toArray below meth c H locs 0 0 (MQ below (va_Qv (fun (_ : Unit) => True) (fun _ t => va_P G vwCl [(h_t, .inr (1, [.int w1, .int w2, .ref h_t_powers, .int w3, .long w4])), (h_p0, .inr (1, [.int p0_genus, .int p0_size, .ref h_p0_powers, .int p0_limit, .long p0_tree])), (h_t_powers, .inl (cI, 8, .inl w0)), (h_p0_powers, .inl (cI, 8, .inl a_p0_powers))] t.heap) A) ([.ref h_t, .ref h_p0] : List Value).toArray s 0 0 A) (F0 m 18 ls []) := by
    intro n18
    induction n18 with
    | zero => intro vL18_0 vL18_1 H locs ls hP hD hS hl h; exact wq2_0 h
    | succ n18 ih18 =>
      intro vL18_0 vL18_1 H locs ls hP hD hS hl h
      have h := wq2_s h
      unfold B_X1_copyFrom_18 at h
      refine lv_iload_n hx hb dX1_copyFrom_18 rfl (lv_at hl 2 rfl) ?_
      refine lv_bipush (v := (8 : Int32)) hx hb dX1_copyFrom_19 (by decide) ?_
      refine lv_icmp_ge (tgt := 42) hx hb dX1_copyFrom_21 (by decide) (fun c1 => ?_) (fun c1 => ?_)
      · have h := it_p h c1
        exact tK_X1_copyFrom_18_42 hx hb hr hml hts hown hlocks hK hA vL18_0 _ _ _ hP hD hS (lv_sub hl [0, 1] rfl) h
      have h := it_n h c1
      refine lv_aload_n hx hb dX1_copyFrom_24 rfl (lv_at hl 0 rfl) ?_
      refine va_get (D := G) (ci := 1) (v := .ref h_t_powers) (C := RX1) (T := TX1) (N := 5) hx hb hts hinX1 hown hK hP 0 rfl rfl 2 (by decide) (hta _ mw_13) (fun _ h9 => h9) rfl dX1_copyFrom_25 ?_
      refine lv_iload_n hx hb dX1_copyFrom_28 rfl (lv_at hl 2 rfl) ?_
      refine lv_aload_n hx hb dX1_copyFrom_29 rfl (lv_at hl 1 rfl) ?_
      refine va_get (D := G) (ci := 1) (v := .ref h_p0_powers) (C := RX1) (T := TX1) (N := 5) hx hb hts hinX1 hown hK hP 1 rfl rfl 2 (by decide) (hta _ mw_13) (fun _ h9 => h9) rfl dX1_copyFrom_30 ?_
      refine lv_iload_n hx hb dX1_copyFrom_33 rfl (lv_at hl 2 rfl) ?_
      obtain ⟨hn2, h⟩ := ck_e h
      refine va_iald hx hb hK hP 3 0 rfl rfl hn2 dX1_copyFrom_34 ?_
      obtain ⟨hn3, h⟩ := ck_e h
      refine va_iast hx hb hK hP hD hS 2 0 rfl rfl hn3 dX1_copyFrom_35 (fun H locs hP hD hS => ?_)
      have hP : va_P G vwCl [(h_t, .inr (1, [.int p0_genus, .int p0_size, .ref h_t_powers, .int t_limit, .long t_tree])), (h_p0, .inr (1, [.int p0_genus, .int p0_size, .ref h_p0_powers, .int p0_limit, .long p0_tree])), (h_t_powers, .inl (cI, 8, .inl (upd vL18_0 vL18_1.toNatClampNeg (a_p0_powers vL18_1.toNatClampNeg)))), (h_p0_powers, .inl (cI, 8, .inl a_p0_powers))] H := hP
      have hD : va_D A [(h_t, .inr (1, [.int p0_genus, .int p0_size, .ref h_t_powers, .int t_limit, .long t_tree])), (h_p0, .inr (1, [.int p0_genus, .int p0_size, .ref h_p0_powers, .int p0_limit, .long p0_tree])), (h_t_powers, .inl (cI, 8, .inl (upd vL18_0 vL18_1.toNatClampNeg (a_p0_powers vL18_1.toNatClampNeg)))), (h_p0_powers, .inl (cI, 8, .inl a_p0_powers))] := hD
      refine lv_iinc (v := (vL18_1 + (1 : Int32))) (lv' := [(2, .int (vL18_1 + (1 : Int32))), (0, .ref h_t), (1, .ref h_p0)]) hx hb dX1_copyFrom_36 hl (k := 2) rfl (by first | rfl | decide) (by decide) rfl (fun ls hl => ?_)
      refine lv_goto (tgt := 18) hx hb dX1_copyFrom_39 (by decide) ?_
      exact ih18 (upd vL18_0 vL18_1.toNatClampNeg (a_p0_powers vL18_1.toNatClampNeg)) (vL18_1 + (1 : Int32)) _ _ _ hP hD hS (lv_sub hl [1, 2, 0] rfl) h
  exact hL18 FU a_t_powers (0 : Int32) _ _ _ hP hD hS (lv_sub hl [1, 2, 0] rfl) h

/-! X1_powerAt -/
set_option maxHeartbeats 4000000 in
set_option maxRecDepth 100000 in
theorem c_X1_powerAt (l : Launch) (G : va_G) (cI cJ cD cH : ClassId) (sz : Nat) (h_t : Nat) (h_t_powers : Nat) (t_genus : Int32) (t_size : Int32) (t_limit : Int32) (t_tree : Int64) (a_t_powers : Nat → Int32) (p0 : Int32) (r0 : Int32) (hF : F_X1_powerAt a_t_powers p0 = some r0) : Met l yX1_powerAt wsX1_powerAt ({ frames := 0, cells := 0, slots := 0, locals := 0 }) (k_pre G (k_T cI cJ cD cH) [(h_t, .inr (1, [.int t_genus, .int t_size, .ref h_t_powers, .int t_limit, .long t_tree])), (h_t_powers, .inl (cI, 8, .inl a_t_powers))] sz [.ref h_t, .int p0]) (va_Qi (fun r (_ : Unit) => r = r0 ∧ True) (fun _ t => va_P G vwCl [(h_t, .inr (1, [.int t_genus, .int t_size, .ref h_t_powers, .int t_limit, .long t_tree])), (h_t_powers, .inl (cI, 8, .inl a_t_powers))] t.heap) (va_A [(h_t, .inr (1, [.int t_genus, .int t_size, .ref h_t_powers, .int t_limit, .long t_tree])), (h_t_powers, .inl (cI, 8, .inl a_t_powers))] sz)) 0 0 (va_A [(h_t, .inr (1, [.int t_genus, .int t_size, .ref h_t_powers, .int t_limit, .long t_tree])), (h_t_powers, .inl (cI, 8, .inl a_t_powers))] sz) := by
  refine Met.ofW (cc := cX1_powerAt) (maxL := 2) (ret := (some .int)) (by decide) rfl ?_
  intro p e s m args below meth c s₁ B hml hv
  obtain ⟨rfl, hsz, hP, hK, hD0⟩ := hv
  have hx := B.exec
  have hb := B.bytes
  have hr := B.returns
  have hts := atoms_spec (ws := wsX1_powerAt) B.pre
  have hta : ∀ w ∈ wA, w.before ([.ref h_t, .int p0] : List Value).toArray s = true := hta_of hts
  have hown : s.vm.findClass RX1 = some m.cls := findClass_of_methodNamed B.named
  have hlocks := B.notSynchronized
  subst hsz
  have hD := hD0.self (sz := s.heap.size)
  generalize hAe : va_A [(h_t, .inr (1, [.int t_genus, .int t_size, .ref h_t_powers, .int t_limit, .long t_tree])), (h_t_powers, .inl (cI, 8, .inl a_t_powers))] s.heap.size = A at hD ⊢
  have hA : ∀ q : Nat, s.heap.size ≤ q → A q := fun q h => by rw [← hAe]; exact Or.inr h
  have hS : va_S A s.heap s.heap [] := va_S.rf
  have hl := lv_entry ([.ref h_t, .int p0]) (n := 2) (Nat.le_of_ble_eq_true rfl)
  rw [lg_entry_eq]
  generalize (lg_sl ([.ref h_t, .int p0]) ++ List.replicate (2 - (lg_sl ([.ref h_t, .int p0])).length) Slot.unset).toArray = ls at hl ⊢
  have hl : lv_has ls 2 [(0, .ref h_t), (1, .int p0)] := hl
  have hinX1 : ∀ w ∈ wsX10, w ∈ wsX1_powerAt := hin_of in_X1
  have h := hF
  unfold F_X1_powerAt at h
  refine lv_iload_n hx hb dX1_powerAt_0 rfl (lv_at hl 1 rfl) ?_
  refine lv_if_lt (tgt := 19) hx hb dX1_powerAt_1 (by decide) (fun c1 => ?_) (fun c1 => ?_)
  · have h := it_p h c1
    refine lv_iconst (v := (0 : Int32)) hx hb dX1_powerAt_19 (by decide) ?_
    have h9 := Option.some.inj h
    have e9 : (0 : Int32) = r0 := congrArg (fun z9 => z9) h9
    rw [← e9]
    exact k_iret hx hb hr hlocks hP hS rfl dX1_powerAt_20
  have h := it_n h c1
  refine lv_iload_n hx hb dX1_powerAt_4 rfl (lv_at hl 1 rfl) ?_
  refine lv_bipush (v := (8 : Int32)) hx hb dX1_powerAt_5 (by decide) ?_
  refine lv_icmp_ge (tgt := 19) hx hb dX1_powerAt_7 (by decide) (fun c2 => ?_) (fun c2 => ?_)
  · have h := it_p h c2
    refine lv_iconst (v := (0 : Int32)) hx hb dX1_powerAt_19 (by decide) ?_
    have h9 := Option.some.inj h
    have e9 : (0 : Int32) = r0 := congrArg (fun z9 => z9) h9
    rw [← e9]
    exact k_iret hx hb hr hlocks hP hS rfl dX1_powerAt_20
  have h := it_n h c2
  refine lv_aload_n hx hb dX1_powerAt_10 rfl (lv_at hl 0 rfl) ?_
  refine va_get (D := G) (ci := 1) (v := .ref h_t_powers) (C := RX1) (T := TX1) (N := 5) hx hb hts hinX1 hown hK hP 0 rfl rfl 2 (by decide) (hta _ mw_13) (fun _ h9 => h9) rfl dX1_powerAt_11 ?_
  refine lv_iload_n hx hb dX1_powerAt_14 rfl (lv_at hl 1 rfl) ?_
  obtain ⟨hn3, h⟩ := ck_e h
  refine va_iald hx hb hK hP 1 0 rfl rfl hn3 dX1_powerAt_15 ?_
  refine lv_goto (tgt := 20) hx hb dX1_powerAt_16 (by decide) ?_
  have h9 := Option.some.inj h
  have e9 : (a_t_powers p0.toNatClampNeg) = r0 := congrArg (fun z9 => z9) h9
  rw [← e9]
  exact k_iret hx hb hr hlocks hP hS rfl dX1_powerAt_20

/-! X1_unlikePowers -/
set_option maxHeartbeats 4000000 in
set_option maxRecDepth 100000 in
theorem c_X1_unlikePowers (l : Launch) (G : va_G) (cI cJ cD cH : ClassId) (sz : Nat) (h_t : Nat) (h_p0 : Nat) (h_t_powers : Nat) (h_p0_powers : Nat) (t_genus : Int32) (t_size : Int32) (t_limit : Int32) (t_tree : Int64) (p0_genus : Int32) (p0_size : Int32) (p0_limit : Int32) (p0_tree : Int64) (a_t_powers : Nat → Int32) (a_p0_powers : Nat → Int32) (r0 : Int32) (hF : F_X1_unlikePowers t_size p0_size a_t_powers a_p0_powers = some r0) : Met l yX1_unlikePowers wsX1_unlikePowers ({ frames := 1, cells := 0, slots := 0, locals := 21 }) (k_pre G (k_T cI cJ cD cH) [(h_t, .inr (1, [.int t_genus, .int t_size, .ref h_t_powers, .int t_limit, .long t_tree])), (h_p0, .inr (1, [.int p0_genus, .int p0_size, .ref h_p0_powers, .int p0_limit, .long p0_tree])), (h_t_powers, .inl (cI, 8, .inl a_t_powers)), (h_p0_powers, .inl (cI, 8, .inl a_p0_powers))] sz [.ref h_t, .ref h_p0]) (va_Qi (fun r (_ : Unit) => r = r0 ∧ True) (fun _ t => va_P G vwCl [(h_t, .inr (1, [.int t_genus, .int t_size, .ref h_t_powers, .int t_limit, .long t_tree])), (h_p0, .inr (1, [.int p0_genus, .int p0_size, .ref h_p0_powers, .int p0_limit, .long p0_tree])), (h_t_powers, .inl (cI, 8, .inl a_t_powers)), (h_p0_powers, .inl (cI, 8, .inl a_p0_powers))] t.heap) (va_A [(h_t, .inr (1, [.int t_genus, .int t_size, .ref h_t_powers, .int t_limit, .long t_tree])), (h_p0, .inr (1, [.int p0_genus, .int p0_size, .ref h_p0_powers, .int p0_limit, .long p0_tree])), (h_t_powers, .inl (cI, 8, .inl a_t_powers)), (h_p0_powers, .inl (cI, 8, .inl a_p0_powers))] sz)) 0 0 (va_A [(h_t, .inr (1, [.int t_genus, .int t_size, .ref h_t_powers, .int t_limit, .long t_tree])), (h_p0, .inr (1, [.int p0_genus, .int p0_size, .ref h_p0_powers, .int p0_limit, .long p0_tree])), (h_t_powers, .inl (cI, 8, .inl a_t_powers)), (h_p0_powers, .inl (cI, 8, .inl a_p0_powers))] sz) := by
  refine Met.ofW (cc := cX1_unlikePowers) (maxL := 4) (ret := (some .int)) (by decide) rfl ?_
  intro p e s m args below meth c s₁ B hml hv
  obtain ⟨rfl, hsz, hP, hK, hD0⟩ := hv
  have hx := B.exec
  have hb := B.bytes
  have hr := B.returns
  have hts := atoms_spec (ws := wsX1_unlikePowers) B.pre
  have hta : ∀ w ∈ wA, w.before ([.ref h_t, .ref h_p0] : List Value).toArray s = true := hta_of hts
  have hown : s.vm.findClass RX1 = some m.cls := findClass_of_methodNamed B.named
  have hlocks := B.notSynchronized
  subst hsz
  have hD := hD0.self (sz := s.heap.size)
  generalize hAe : va_A [(h_t, .inr (1, [.int t_genus, .int t_size, .ref h_t_powers, .int t_limit, .long t_tree])), (h_p0, .inr (1, [.int p0_genus, .int p0_size, .ref h_p0_powers, .int p0_limit, .long p0_tree])), (h_t_powers, .inl (cI, 8, .inl a_t_powers)), (h_p0_powers, .inl (cI, 8, .inl a_p0_powers))] s.heap.size = A at hD ⊢
  have hA : ∀ q : Nat, s.heap.size ≤ q → A q := fun q h => by rw [← hAe]; exact Or.inr h
  have hS : va_S A s.heap s.heap [] := va_S.rf
  have hl := lv_entry ([.ref h_t, .ref h_p0]) (n := 4) (Nat.le_of_ble_eq_true rfl)
  rw [lg_entry_eq]
  generalize (lg_sl ([.ref h_t, .ref h_p0]) ++ List.replicate (4 - (lg_sl ([.ref h_t, .ref h_p0])).length) Slot.unset).toArray = ls at hl ⊢
  have hl : lv_has ls 4 [(0, .ref h_t), (1, .ref h_p0)] := hl
  have hinX1 : ∀ w ∈ wsX10, w ∈ wsX1_unlikePowers := hin_of in_X1
  have h := hF
  unfold F_X1_unlikePowers at h
  refine lv_iconst (v := (0 : Int32)) hx hb dX1_unlikePowers_0 (by decide) ?_
  refine lv_istore_n (lv' := [(2, .int (0 : Int32)), (0, .ref h_t), (1, .ref h_p0)]) hx hb dX1_unlikePowers_1 rfl hl (by decide) rfl (fun ls hl => ?_)
  refine lv_iconst (v := (0 : Int32)) hx hb dX1_unlikePowers_2 (by decide) ?_
  refine lv_istore_n (lv' := [(3, .int (0 : Int32)), (2, .int (0 : Int32)), (0, .ref h_t), (1, .ref h_p0)]) hx hb dX1_unlikePowers_3 rfl hl (by decide) rfl (fun ls hl => ?_)
  have hK_X1_unlikePowers_4_42 : ∀  (vK4_42_0 : Int32) (H : Heap) (locs : List Loc) (ls : Array Slot), va_P G vwCl [(h_t, .inr (1, [.int t_genus, .int t_size, .ref h_t_powers, .int t_limit, .long t_tree])), (h_p0, .inr (1, [.int p0_genus, .int p0_size, .ref h_p0_powers, .int p0_limit, .long p0_tree])), (h_t_powers, .inl (cI, 8, .inl a_t_powers)), (h_p0_powers, .inl (cI, 8, .inl a_p0_powers))] H → va_D A [(h_t, .inr (1, [.int t_genus, .int t_size, .ref h_t_powers, .int t_limit, .long t_tree])), (h_p0, .inr (1, [.int p0_genus, .int p0_size, .ref h_p0_powers, .int p0_limit, .long p0_tree])), (h_t_powers, .inl (cI, 8, .inl a_t_powers)), (h_p0_powers, .inl (cI, 8, .inl a_p0_powers))] → va_S A s.heap H locs → lv_has ls 4 [(2, .int vK4_42_0)] → K_X1_unlikePowers_4_42 vK4_42_0 = some r0 → W p l e (headSpec wsX1_unlikePowers ({ frames := 1, cells := 0, slots := 0, locals := 21 })).room s m ([.ref h_t, .ref h_p0] : List Value).toArray below meth c H locs 0 0 (MQ below (va_Qi (fun r (_ : Unit) => r = r0 ∧ True) (fun _ t => va_P G vwCl [(h_t, .inr (1, [.int t_genus, .int t_size, .ref h_t_powers, .int t_limit, .long t_tree])), (h_p0, .inr (1, [.int p0_genus, .int p0_size, .ref h_p0_powers, .int p0_limit, .long p0_tree])), (h_t_powers, .inl (cI, 8, .inl a_t_powers)), (h_p0_powers, .inl (cI, 8, .inl a_p0_powers))] t.heap) A) ([.ref h_t, .ref h_p0] : List Value).toArray s 0 0 A) (F0 m 42 ls []) := by
    intro vK4_42_0 H locs ls hP hD hS hl h
    unfold K_X1_unlikePowers_4_42 at h
    refine lv_iload_n hx hb dX1_unlikePowers_42 rfl (lv_at hl 0 rfl) ?_
    have h9 := Option.some.inj h
    have e9 : vK4_42_0 = r0 := congrArg (fun z9 => z9) h9
    rw [← e9]
    exact k_iret hx hb hr hlocks hP hS rfl dX1_unlikePowers_43
  have hL4 : ∀ (n4 : Nat) (vL4_0 : Int32) (vL4_1 : Int32) (H : Heap) (locs : List Loc) (ls : Array Slot), va_P G vwCl [(h_t, .inr (1, [.int t_genus, .int t_size, .ref h_t_powers, .int t_limit, .long t_tree])), (h_p0, .inr (1, [.int p0_genus, .int p0_size, .ref h_p0_powers, .int p0_limit, .long p0_tree])), (h_t_powers, .inl (cI, 8, .inl a_t_powers)), (h_p0_powers, .inl (cI, 8, .inl a_p0_powers))] H → va_D A [(h_t, .inr (1, [.int t_genus, .int t_size, .ref h_t_powers, .int t_limit, .long t_tree])), (h_p0, .inr (1, [.int p0_genus, .int p0_size, .ref h_p0_powers, .int p0_limit, .long p0_tree])), (h_t_powers, .inl (cI, 8, .inl a_t_powers)), (h_p0_powers, .inl (cI, 8, .inl a_p0_powers))] → va_S A s.heap H locs → lv_has ls 4 [(0, .ref h_t), (1, .ref h_p0), (2, .int vL4_0), (3, .int vL4_1)] → wq2 (B_X1_unlikePowers_4 t_size p0_size a_t_powers a_p0_powers K_X1_unlikePowers_4_42) n4 vL4_0 vL4_1 = some r0 → W p l e (headSpec wsX1_unlikePowers ({ frames := 1, cells := 0, slots := 0, locals := 21 })).room s m ([.ref h_t, .ref h_p0] : List Value).toArray below meth c H locs 0 0 (MQ below (va_Qi (fun r (_ : Unit) => r = r0 ∧ True) (fun _ t => va_P G vwCl [(h_t, .inr (1, [.int t_genus, .int t_size, .ref h_t_powers, .int t_limit, .long t_tree])), (h_p0, .inr (1, [.int p0_genus, .int p0_size, .ref h_p0_powers, .int p0_limit, .long p0_tree])), (h_t_powers, .inl (cI, 8, .inl a_t_powers)), (h_p0_powers, .inl (cI, 8, .inl a_p0_powers))] t.heap) A) ([.ref h_t, .ref h_p0] : List Value).toArray s 0 0 A) (F0 m 4 ls []) := by
    intro n4
    induction n4 with
    | zero => intro vL4_0 vL4_1 H locs ls hP hD hS hl h; exact wq2_0 h
    | succ n4 ih4 =>
      intro vL4_0 vL4_1 H locs ls hP hD hS hl h
      have h := wq2_s h
      unfold B_X1_unlikePowers_4 at h
      refine lv_iload_n hx hb dX1_unlikePowers_4 rfl (lv_at hl 3 rfl) ?_
      refine lv_aload_n hx hb dX1_unlikePowers_5 rfl (lv_at hl 0 rfl) ?_
      refine va_get (D := G) (ci := 1) (v := .int t_size) (C := RX1) (T := TX1) (N := 5) hx hb hts hinX1 hown hK hP 0 rfl rfl 1 (by decide) (hta _ mw_31) (fun _ h9 => h9) rfl dX1_unlikePowers_6 ?_
      refine lv_icmp_ge (tgt := 42) hx hb dX1_unlikePowers_9 (by decide) (fun c1 => ?_) (fun c1 => ?_)
      · have h := it_p h c1
        exact hK_X1_unlikePowers_4_42 vL4_0 _ _ _ hP hD hS (lv_sub hl [2] rfl) h
      have h := it_n h c1
      refine lv_iload_n hx hb dX1_unlikePowers_12 rfl (lv_at hl 3 rfl) ?_
      refine lv_aload_n hx hb dX1_unlikePowers_13 rfl (lv_at hl 1 rfl) ?_
      refine va_get (D := G) (ci := 1) (v := .int p0_size) (C := RX1) (T := TX1) (N := 5) hx hb hts hinX1 hown hK hP 1 rfl rfl 1 (by decide) (hta _ mw_31) (fun _ h9 => h9) rfl dX1_unlikePowers_14 ?_
      refine lv_icmp_ge (tgt := 42) hx hb dX1_unlikePowers_17 (by decide) (fun c2 => ?_) (fun c2 => ?_)
      · have h := it_p h c2
        exact hK_X1_unlikePowers_4_42 vL4_0 _ _ _ hP hD hS (lv_sub hl [2] rfl) h
      have h := it_n h c2
      refine lv_aload_n hx hb dX1_unlikePowers_20 rfl (lv_at hl 0 rfl) ?_
      refine lv_iload_n hx hb dX1_unlikePowers_21 rfl (lv_at hl 3 rfl) ?_
      obtain ⟨x3, hx3, h⟩ := bd_e h
      try dsimp only at h
      refine k_ViU (n := 1) (As := [.int vL4_1]) (rest := []) hx hb hml hown hts (c_X1_powerAt l G cI cJ cD cH H.size h_t h_t_powers t_genus t_size t_limit t_tree a_t_powers vL4_1 x3 hx3) gX1_unlikePowers_X1_powerAt rfl rfl rfl (by decide +kernel) ⟨by first | exact Nat.le_of_ble_eq_true rfl | (simp only [headSpec]; omega), by first | exact Nat.le_of_ble_eq_true rfl | (simp only [headSpec]; omega)⟩ hK hP hD hS hA [0, 2] (by decide) rfl (ci := 1) rfl rfl rfl rfl rfl hl.1 (Nat.le_of_ble_eq_true rfl) dX1_unlikePowers_22 ⟨Nat.zero_le _, Nat.zero_le _⟩ (fun hp3 H locs hP hS => ?_)
      refine lv_aload_n hx hb dX1_unlikePowers_25 rfl (lv_at hl 1 rfl) ?_
      refine lv_iload_n hx hb dX1_unlikePowers_26 rfl (lv_at hl 3 rfl) ?_
      obtain ⟨x4, hx4, h⟩ := bd_e h
      try dsimp only at h
      refine k_ViU (n := 1) (As := [.int vL4_1]) (rest := [.int x3]) hx hb hml hown hts (c_X1_powerAt l G cI cJ cD cH H.size h_p0 h_p0_powers p0_genus p0_size p0_limit p0_tree a_p0_powers vL4_1 x4 hx4) gX1_unlikePowers_X1_powerAt rfl rfl rfl (by decide +kernel) ⟨by first | exact Nat.le_of_ble_eq_true rfl | (simp only [headSpec]; omega), by first | exact Nat.le_of_ble_eq_true rfl | (simp only [headSpec]; omega)⟩ hK hP hD hS hA [1, 3] (by decide) rfl (ci := 1) rfl rfl rfl rfl rfl hl.1 (Nat.le_of_ble_eq_true rfl) dX1_unlikePowers_27 ⟨Nat.zero_le _, Nat.zero_le _⟩ (fun hp4 H locs hP hS => ?_)
      refine lv_icmp_eq (tgt := 36) hx hb dX1_unlikePowers_30 (by decide) (fun c5 => ?_) (fun c5 => ?_)
      · have h := it_p h c5
        refine lv_iinc (v := (vL4_1 + (1 : Int32))) (lv' := [(3, .int (vL4_1 + (1 : Int32))), (0, .ref h_t), (1, .ref h_p0), (2, .int vL4_0)]) hx hb dX1_unlikePowers_36 hl (k := 3) rfl (by first | rfl | decide) (by decide) rfl (fun ls hl => ?_)
        refine lv_goto (tgt := 4) hx hb dX1_unlikePowers_39 (by decide) ?_
        exact ih4 vL4_0 (vL4_1 + (1 : Int32)) _ _ _ hP hD hS (lv_sub hl [1, 2, 3, 0] rfl) h
      have h := it_n h c5
      refine lv_iinc (v := (vL4_0 + (1 : Int32))) (lv' := [(2, .int (vL4_0 + (1 : Int32))), (0, .ref h_t), (1, .ref h_p0), (3, .int vL4_1)]) hx hb dX1_unlikePowers_33 hl (k := 2) rfl (by first | rfl | decide) (by decide) rfl (fun ls hl => ?_)
      refine lv_iinc (v := (vL4_1 + (1 : Int32))) (lv' := [(3, .int (vL4_1 + (1 : Int32))), (2, .int (vL4_0 + (1 : Int32))), (0, .ref h_t), (1, .ref h_p0)]) hx hb dX1_unlikePowers_36 hl (k := 3) rfl (by first | rfl | decide) (by decide) rfl (fun ls hl => ?_)
      refine lv_goto (tgt := 4) hx hb dX1_unlikePowers_39 (by decide) ?_
      exact ih4 (vL4_0 + (1 : Int32)) (vL4_1 + (1 : Int32)) _ _ _ hP hD hS (lv_sub hl [2, 3, 1, 0] rfl) h
  exact hL4 FU (0 : Int32) (0 : Int32) _ _ _ hP hD hS (lv_sub hl [2, 3, 1, 0] rfl) h

/-! X1_isLike -/
set_option maxHeartbeats 4000000 in
set_option maxRecDepth 100000 in
theorem c_X1_isLike (l : Launch) (G : va_G) (cI cJ cD cH : ClassId) (sz : Nat) (h_t : Nat) (h_p0 : Nat) (h_t_powers : Nat) (h_p0_powers : Nat) (t_genus : Int32) (t_size : Int32) (t_limit : Int32) (t_tree : Int64) (p0_genus : Int32) (p0_size : Int32) (p0_limit : Int32) (p0_tree : Int64) (a_t_powers : Nat → Int32) (a_p0_powers : Nat → Int32) (r0 : Int32) (hF : F_X1_isLike t_genus t_size t_limit t_tree p0_genus p0_size p0_limit p0_tree a_t_powers a_p0_powers = some r0) : Met l yX1_isLike wsX1_isLike ({ frames := 2, cells := 0, slots := 0, locals := 44 }) (k_pre G (k_T cI cJ cD cH) [(h_t, .inr (1, [.int t_genus, .int t_size, .ref h_t_powers, .int t_limit, .long t_tree])), (h_p0, .inr (1, [.int p0_genus, .int p0_size, .ref h_p0_powers, .int p0_limit, .long p0_tree])), (h_t_powers, .inl (cI, 8, .inl a_t_powers)), (h_p0_powers, .inl (cI, 8, .inl a_p0_powers))] sz [.ref h_t, .ref h_p0]) (va_Qi (fun r (_ : Unit) => r = r0 ∧ narrow .boolean (.int r0) = .int r0) (fun _ t => va_P G vwCl [(h_t, .inr (1, [.int t_genus, .int t_size, .ref h_t_powers, .int t_limit, .long t_tree])), (h_p0, .inr (1, [.int p0_genus, .int p0_size, .ref h_p0_powers, .int p0_limit, .long p0_tree])), (h_t_powers, .inl (cI, 8, .inl a_t_powers)), (h_p0_powers, .inl (cI, 8, .inl a_p0_powers))] t.heap) (va_A [(h_t, .inr (1, [.int t_genus, .int t_size, .ref h_t_powers, .int t_limit, .long t_tree])), (h_p0, .inr (1, [.int p0_genus, .int p0_size, .ref h_p0_powers, .int p0_limit, .long p0_tree])), (h_t_powers, .inl (cI, 8, .inl a_t_powers)), (h_p0_powers, .inl (cI, 8, .inl a_p0_powers))] sz)) 0 0 (va_A [(h_t, .inr (1, [.int t_genus, .int t_size, .ref h_t_powers, .int t_limit, .long t_tree])), (h_p0, .inr (1, [.int p0_genus, .int p0_size, .ref h_p0_powers, .int p0_limit, .long p0_tree])), (h_t_powers, .inl (cI, 8, .inl a_t_powers)), (h_p0_powers, .inl (cI, 8, .inl a_p0_powers))] sz) := by
  refine Met.ofW (cc := cX1_isLike) (maxL := 2) (ret := (some .boolean)) (by decide) rfl ?_
  intro p e s m args below meth c s₁ B hml hv
  obtain ⟨rfl, hsz, hP, hK, hD0⟩ := hv
  have hx := B.exec
  have hb := B.bytes
  have hr := B.returns
  have hts := atoms_spec (ws := wsX1_isLike) B.pre
  have hta : ∀ w ∈ wA, w.before ([.ref h_t, .ref h_p0] : List Value).toArray s = true := hta_of hts
  have hown : s.vm.findClass RX1 = some m.cls := findClass_of_methodNamed B.named
  have hlocks := B.notSynchronized
  subst hsz
  have hD := hD0.self (sz := s.heap.size)
  generalize hAe : va_A [(h_t, .inr (1, [.int t_genus, .int t_size, .ref h_t_powers, .int t_limit, .long t_tree])), (h_p0, .inr (1, [.int p0_genus, .int p0_size, .ref h_p0_powers, .int p0_limit, .long p0_tree])), (h_t_powers, .inl (cI, 8, .inl a_t_powers)), (h_p0_powers, .inl (cI, 8, .inl a_p0_powers))] s.heap.size = A at hD ⊢
  have hA : ∀ q : Nat, s.heap.size ≤ q → A q := fun q h => by rw [← hAe]; exact Or.inr h
  have hS : va_S A s.heap s.heap [] := va_S.rf
  have hl := lv_entry ([.ref h_t, .ref h_p0]) (n := 2) (Nat.le_of_ble_eq_true rfl)
  rw [lg_entry_eq]
  generalize (lg_sl ([.ref h_t, .ref h_p0]) ++ List.replicate (2 - (lg_sl ([.ref h_t, .ref h_p0])).length) Slot.unset).toArray = ls at hl ⊢
  have hl : lv_has ls 2 [(0, .ref h_t), (1, .ref h_p0)] := hl
  have hinX1 : ∀ w ∈ wsX10, w ∈ wsX1_isLike := hin_of in_X1
  have h := hF
  unfold F_X1_isLike at h
  refine lv_aload_n hx hb dX1_isLike_0 rfl (lv_at hl 0 rfl) ?_
  refine va_get (D := G) (ci := 1) (v := .int t_genus) (C := RX1) (T := TX1) (N := 5) hx hb hts hinX1 hown hK hP 0 rfl rfl 0 (by decide) (hta _ mw_29) (fun _ h9 => h9) rfl dX1_isLike_1 ?_
  refine lv_aload_n hx hb dX1_isLike_4 rfl (lv_at hl 1 rfl) ?_
  refine va_get (D := G) (ci := 1) (v := .int p0_genus) (C := RX1) (T := TX1) (N := 5) hx hb hts hinX1 hown hK hP 1 rfl rfl 0 (by decide) (hta _ mw_29) (fun _ h9 => h9) rfl dX1_isLike_5 ?_
  refine lv_icmp_ne (tgt := 57) hx hb dX1_isLike_8 (by decide) (fun c1 => ?_) (fun c1 => ?_)
  · have h := it_n h c1
    refine lv_iconst (v := (0 : Int32)) hx hb dX1_isLike_57 (by decide) ?_
    have h9 := Option.some.inj h
    have e9 : (0 : Int32) = r0 := congrArg (fun z9 => z9) h9
    rw [← e9]
    exact k_zret hx hb hr hlocks hP hS rfl rfl dX1_isLike_58
  have h := it_p h c1
  refine lv_aload_n hx hb dX1_isLike_11 rfl (lv_at hl 0 rfl) ?_
  refine va_get (D := G) (ci := 1) (v := .int t_limit) (C := RX1) (T := TX1) (N := 5) hx hb hts hinX1 hown hK hP 0 rfl rfl 3 (by decide) (hta _ mw_14) (fun _ h9 => h9) rfl dX1_isLike_12 ?_
  refine lv_aload_n hx hb dX1_isLike_15 rfl (lv_at hl 1 rfl) ?_
  refine va_get (D := G) (ci := 1) (v := .int p0_limit) (C := RX1) (T := TX1) (N := 5) hx hb hts hinX1 hown hK hP 1 rfl rfl 3 (by decide) (hta _ mw_14) (fun _ h9 => h9) rfl dX1_isLike_16 ?_
  refine lv_icmp_ne (tgt := 57) hx hb dX1_isLike_19 (by decide) (fun c2 => ?_) (fun c2 => ?_)
  · have h := it_n h c2
    refine lv_iconst (v := (0 : Int32)) hx hb dX1_isLike_57 (by decide) ?_
    have h9 := Option.some.inj h
    have e9 : (0 : Int32) = r0 := congrArg (fun z9 => z9) h9
    rw [← e9]
    exact k_zret hx hb hr hlocks hP hS rfl rfl dX1_isLike_58
  have h := it_p h c2
  refine lv_aload_n hx hb dX1_isLike_22 rfl (lv_at hl 0 rfl) ?_
  refine va_get (D := G) (ci := 1) (v := .long t_tree) (C := RX1) (T := TX1) (N := 5) hx hb hts hinX1 hown hK hP 0 rfl rfl 4 (by decide) (hta _ mw_30) (fun _ h9 => h9) rfl dX1_isLike_23 ?_
  refine lv_aload_n hx hb dX1_isLike_26 rfl (lv_at hl 1 rfl) ?_
  refine va_get (D := G) (ci := 1) (v := .long p0_tree) (C := RX1) (T := TX1) (N := 5) hx hb hts hinX1 hown hK hP 1 rfl rfl 4 (by decide) (hta _ mw_30) (fun _ h9 => h9) rfl dX1_isLike_27 ?_
  refine W.lcmp hx hb dX1_isLike_30 ?_
  refine lv_if_ne (tgt := 57) hx hb dX1_isLike_31 (by decide) (fun c3 => ?_) (fun c3 => ?_)
  · have h := it_n h c3
    refine lv_iconst (v := (0 : Int32)) hx hb dX1_isLike_57 (by decide) ?_
    have h9 := Option.some.inj h
    have e9 : (0 : Int32) = r0 := congrArg (fun z9 => z9) h9
    rw [← e9]
    exact k_zret hx hb hr hlocks hP hS rfl rfl dX1_isLike_58
  have h := it_p h c3
  refine lv_aload_n hx hb dX1_isLike_34 rfl (lv_at hl 0 rfl) ?_
  refine va_get (D := G) (ci := 1) (v := .int t_size) (C := RX1) (T := TX1) (N := 5) hx hb hts hinX1 hown hK hP 0 rfl rfl 1 (by decide) (hta _ mw_31) (fun _ h9 => h9) rfl dX1_isLike_35 ?_
  refine lv_aload_n hx hb dX1_isLike_38 rfl (lv_at hl 1 rfl) ?_
  refine va_get (D := G) (ci := 1) (v := .int p0_size) (C := RX1) (T := TX1) (N := 5) hx hb hts hinX1 hown hK hP 1 rfl rfl 1 (by decide) (hta _ mw_31) (fun _ h9 => h9) rfl dX1_isLike_39 ?_
  refine lv_icmp_ne (tgt := 57) hx hb dX1_isLike_42 (by decide) (fun c4 => ?_) (fun c4 => ?_)
  · have h := it_n h c4
    refine lv_iconst (v := (0 : Int32)) hx hb dX1_isLike_57 (by decide) ?_
    have h9 := Option.some.inj h
    have e9 : (0 : Int32) = r0 := congrArg (fun z9 => z9) h9
    rw [← e9]
    exact k_zret hx hb hr hlocks hP hS rfl rfl dX1_isLike_58
  have h := it_p h c4
  refine lv_aload_n hx hb dX1_isLike_45 rfl (lv_at hl 0 rfl) ?_
  refine lv_aload_n hx hb dX1_isLike_46 rfl (lv_at hl 1 rfl) ?_
  obtain ⟨x5, hx5, h⟩ := bd_e h
  try dsimp only at h
  refine k_ViU (n := 1) (As := [.ref h_p0]) (rest := []) hx hb hml hown hts (c_X1_unlikePowers l G cI cJ cD cH s.heap.size h_t h_p0 h_t_powers h_p0_powers t_genus t_size t_limit t_tree p0_genus p0_size p0_limit p0_tree a_t_powers a_p0_powers x5 hx5) gX1_isLike_X1_unlikePowers rfl rfl rfl (by decide +kernel) ⟨by first | exact Nat.le_of_ble_eq_true rfl | (simp only [headSpec]; omega), by first | exact Nat.le_of_ble_eq_true rfl | (simp only [headSpec]; omega)⟩ hK hP hD hS hA [0, 1, 2, 3] (by decide) rfl (ci := 1) rfl rfl rfl rfl rfl hl.1 (Nat.le_of_ble_eq_true rfl) dX1_isLike_47 ⟨Nat.zero_le _, Nat.zero_le _⟩ (fun hp5 H locs hP hS => ?_)
  refine lv_if_ne (tgt := 57) hx hb dX1_isLike_50 (by decide) (fun c6 => ?_) (fun c6 => ?_)
  · have h := it_n h c6
    refine lv_iconst (v := (0 : Int32)) hx hb dX1_isLike_57 (by decide) ?_
    have h9 := Option.some.inj h
    have e9 : (0 : Int32) = r0 := congrArg (fun z9 => z9) h9
    rw [← e9]
    exact k_zret hx hb hr hlocks hP hS rfl rfl dX1_isLike_58
  have h := it_p h c6
  refine lv_iconst (v := (1 : Int32)) hx hb dX1_isLike_53 (by decide) ?_
  refine lv_goto (tgt := 58) hx hb dX1_isLike_54 (by decide) ?_
  have h9 := Option.some.inj h
  have e9 : (1 : Int32) = r0 := congrArg (fun z9 => z9) h9
  rw [← e9]
  exact k_zret hx hb hr hlocks hP hS rfl rfl dX1_isLike_58

/-! X0_settle -/
set_option maxHeartbeats 40000000 in
set_option maxRecDepth 100000 in
theorem tJ_X0_settle_25 {l : Launch} {G : va_G} {cI cJ cD cH : ClassId} {h_t : Nat} {h_p0 : Nat} {h_t_desks : Nat} {h_p0_powers : Nat} {t_last : Int32} {p0_genus : Int32} {p0_size : Int32} {p0_limit : Int32} {p0_tree : Int64} {a_p0_powers : Nat → Int32} {w0 : Int32} {w1 : Int32} {w2 : Nat → Nat → Int32} {w3 : Nat → Nat} {w4 : Nat → Int32} {w5 : Nat → Int32} {w6 : Nat → Nat} {w7 : Nat → Int32} {w8 : Nat → Int64} {p : Program} {e : Env} {s : State} {m : MethodId} {below : List Frame} {meth : Method} {c : Code} {A : Nat → Prop} (hx : p.tables.exec = Jvm.exec) (hb : c.code = cX0_settle) (hr : meth.sig.returnType = none) (hml : c.maxLocals = 2) (hts : ∀ w ∈ wsX0_settle, w.before ([.ref h_t, .ref h_p0] : List Value).toArray s = true) (hown : s.vm.findClass RX0 = some m.cls) (hlocks : meth.locks = false) (hK : va_K G vwCl (k_T cI cJ cD cH) s) (hA : ∀ q : Nat, s.heap.size ≤ q → A q) : ∀  (vJ25_0 : Int32) (vJ25_1 : Nat → Nat → Int32) (vJ25_2 : Nat → Nat) (vJ25_3 : Nat → Int32) (vJ25_4 : Nat → Int32) (vJ25_5 : Nat → Nat) (vJ25_6 : Nat → Int32) (vJ25_7 : Nat → Int64) (H : Heap) (locs : List Loc) (ls : Array Slot), va_P G vwCl [(h_t, .inr (0, [.ref h_t_desks, .int vJ25_0, .int t_last])), (h_p0, .inr (1, [.int p0_genus, .int p0_size, .ref h_p0_powers, .int p0_limit, .long p0_tree])), (h_t_desks, .inl (cD, 9, .inr (.inr (.inr (.inr (fun i => some (vJ25_2 i))))))), ((vJ25_2 0), .inr (1, [.int (vJ25_3 0), .int (vJ25_6 0), .ref (vJ25_5 0), .int (vJ25_4 0), .long (vJ25_7 0)])), ((vJ25_5 0), .inl (cI, 8, .inl (vJ25_1 0))), ((vJ25_2 1), .inr (1, [.int (vJ25_3 1), .int (vJ25_6 1), .ref (vJ25_5 1), .int (vJ25_4 1), .long (vJ25_7 1)])), ((vJ25_5 1), .inl (cI, 8, .inl (vJ25_1 1))), ((vJ25_2 2), .inr (1, [.int (vJ25_3 2), .int (vJ25_6 2), .ref (vJ25_5 2), .int (vJ25_4 2), .long (vJ25_7 2)])), ((vJ25_5 2), .inl (cI, 8, .inl (vJ25_1 2))), ((vJ25_2 3), .inr (1, [.int (vJ25_3 3), .int (vJ25_6 3), .ref (vJ25_5 3), .int (vJ25_4 3), .long (vJ25_7 3)])), ((vJ25_5 3), .inl (cI, 8, .inl (vJ25_1 3))), ((vJ25_2 4), .inr (1, [.int (vJ25_3 4), .int (vJ25_6 4), .ref (vJ25_5 4), .int (vJ25_4 4), .long (vJ25_7 4)])), ((vJ25_5 4), .inl (cI, 8, .inl (vJ25_1 4))), ((vJ25_2 5), .inr (1, [.int (vJ25_3 5), .int (vJ25_6 5), .ref (vJ25_5 5), .int (vJ25_4 5), .long (vJ25_7 5)])), ((vJ25_5 5), .inl (cI, 8, .inl (vJ25_1 5))), ((vJ25_2 6), .inr (1, [.int (vJ25_3 6), .int (vJ25_6 6), .ref (vJ25_5 6), .int (vJ25_4 6), .long (vJ25_7 6)])), ((vJ25_5 6), .inl (cI, 8, .inl (vJ25_1 6))), ((vJ25_2 7), .inr (1, [.int (vJ25_3 7), .int (vJ25_6 7), .ref (vJ25_5 7), .int (vJ25_4 7), .long (vJ25_7 7)])), ((vJ25_5 7), .inl (cI, 8, .inl (vJ25_1 7))), ((vJ25_2 8), .inr (1, [.int (vJ25_3 8), .int (vJ25_6 8), .ref (vJ25_5 8), .int (vJ25_4 8), .long (vJ25_7 8)])), ((vJ25_5 8), .inl (cI, 8, .inl (vJ25_1 8))), (h_p0_powers, .inl (cI, 8, .inl a_p0_powers))] H → va_D A [(h_t, .inr (0, [.ref h_t_desks, .int vJ25_0, .int t_last])), (h_p0, .inr (1, [.int p0_genus, .int p0_size, .ref h_p0_powers, .int p0_limit, .long p0_tree])), (h_t_desks, .inl (cD, 9, .inr (.inr (.inr (.inr (fun i => some (vJ25_2 i))))))), ((vJ25_2 0), .inr (1, [.int (vJ25_3 0), .int (vJ25_6 0), .ref (vJ25_5 0), .int (vJ25_4 0), .long (vJ25_7 0)])), ((vJ25_5 0), .inl (cI, 8, .inl (vJ25_1 0))), ((vJ25_2 1), .inr (1, [.int (vJ25_3 1), .int (vJ25_6 1), .ref (vJ25_5 1), .int (vJ25_4 1), .long (vJ25_7 1)])), ((vJ25_5 1), .inl (cI, 8, .inl (vJ25_1 1))), ((vJ25_2 2), .inr (1, [.int (vJ25_3 2), .int (vJ25_6 2), .ref (vJ25_5 2), .int (vJ25_4 2), .long (vJ25_7 2)])), ((vJ25_5 2), .inl (cI, 8, .inl (vJ25_1 2))), ((vJ25_2 3), .inr (1, [.int (vJ25_3 3), .int (vJ25_6 3), .ref (vJ25_5 3), .int (vJ25_4 3), .long (vJ25_7 3)])), ((vJ25_5 3), .inl (cI, 8, .inl (vJ25_1 3))), ((vJ25_2 4), .inr (1, [.int (vJ25_3 4), .int (vJ25_6 4), .ref (vJ25_5 4), .int (vJ25_4 4), .long (vJ25_7 4)])), ((vJ25_5 4), .inl (cI, 8, .inl (vJ25_1 4))), ((vJ25_2 5), .inr (1, [.int (vJ25_3 5), .int (vJ25_6 5), .ref (vJ25_5 5), .int (vJ25_4 5), .long (vJ25_7 5)])), ((vJ25_5 5), .inl (cI, 8, .inl (vJ25_1 5))), ((vJ25_2 6), .inr (1, [.int (vJ25_3 6), .int (vJ25_6 6), .ref (vJ25_5 6), .int (vJ25_4 6), .long (vJ25_7 6)])), ((vJ25_5 6), .inl (cI, 8, .inl (vJ25_1 6))), ((vJ25_2 7), .inr (1, [.int (vJ25_3 7), .int (vJ25_6 7), .ref (vJ25_5 7), .int (vJ25_4 7), .long (vJ25_7 7)])), ((vJ25_5 7), .inl (cI, 8, .inl (vJ25_1 7))), ((vJ25_2 8), .inr (1, [.int (vJ25_3 8), .int (vJ25_6 8), .ref (vJ25_5 8), .int (vJ25_4 8), .long (vJ25_7 8)])), ((vJ25_5 8), .inl (cI, 8, .inl (vJ25_1 8))), (h_p0_powers, .inl (cI, 8, .inl a_p0_powers))] → va_S A s.heap H locs → lv_has ls 2 [(0, .ref h_t), (1, .ref h_p0)] → J_X0_settle_25 p0_genus p0_size p0_limit p0_tree a_p0_powers vJ25_0 vJ25_1 vJ25_2 vJ25_3 vJ25_4 vJ25_5 vJ25_6 vJ25_7 = some (w0, w1, w2, w3, w4, w5, w6, w7, w8) → W p l e (headSpec wsX0_settle ({ frames := 3, cells := 0, slots := 0, locals := 65 })).room s m ([.ref h_t, .ref h_p0] : List Value).toArray below meth c H locs 0 0 (MQ below (va_Qv (fun (_ : Unit) => True) (fun _ t => va_P G vwCl [(h_t, .inr (0, [.ref h_t_desks, .int w0, .int w1])), (h_p0, .inr (1, [.int p0_genus, .int p0_size, .ref h_p0_powers, .int p0_limit, .long p0_tree])), (h_t_desks, .inl (cD, 9, .inr (.inr (.inr (.inr (fun i => some (w3 i))))))), ((w3 0), .inr (1, [.int (w4 0), .int (w7 0), .ref (w6 0), .int (w5 0), .long (w8 0)])), ((w6 0), .inl (cI, 8, .inl (w2 0))), ((w3 1), .inr (1, [.int (w4 1), .int (w7 1), .ref (w6 1), .int (w5 1), .long (w8 1)])), ((w6 1), .inl (cI, 8, .inl (w2 1))), ((w3 2), .inr (1, [.int (w4 2), .int (w7 2), .ref (w6 2), .int (w5 2), .long (w8 2)])), ((w6 2), .inl (cI, 8, .inl (w2 2))), ((w3 3), .inr (1, [.int (w4 3), .int (w7 3), .ref (w6 3), .int (w5 3), .long (w8 3)])), ((w6 3), .inl (cI, 8, .inl (w2 3))), ((w3 4), .inr (1, [.int (w4 4), .int (w7 4), .ref (w6 4), .int (w5 4), .long (w8 4)])), ((w6 4), .inl (cI, 8, .inl (w2 4))), ((w3 5), .inr (1, [.int (w4 5), .int (w7 5), .ref (w6 5), .int (w5 5), .long (w8 5)])), ((w6 5), .inl (cI, 8, .inl (w2 5))), ((w3 6), .inr (1, [.int (w4 6), .int (w7 6), .ref (w6 6), .int (w5 6), .long (w8 6)])), ((w6 6), .inl (cI, 8, .inl (w2 6))), ((w3 7), .inr (1, [.int (w4 7), .int (w7 7), .ref (w6 7), .int (w5 7), .long (w8 7)])), ((w6 7), .inl (cI, 8, .inl (w2 7))), ((w3 8), .inr (1, [.int (w4 8), .int (w7 8), .ref (w6 8), .int (w5 8), .long (w8 8)])), ((w6 8), .inl (cI, 8, .inl (w2 8))), (h_p0_powers, .inl (cI, 8, .inl a_p0_powers))] t.heap ∧ va_D A [(h_t, .inr (0, [.ref h_t_desks, .int w0, .int w1])), (h_p0, .inr (1, [.int p0_genus, .int p0_size, .ref h_p0_powers, .int p0_limit, .long p0_tree])), (h_t_desks, .inl (cD, 9, .inr (.inr (.inr (.inr (fun i => some (w3 i))))))), ((w3 0), .inr (1, [.int (w4 0), .int (w7 0), .ref (w6 0), .int (w5 0), .long (w8 0)])), ((w6 0), .inl (cI, 8, .inl (w2 0))), ((w3 1), .inr (1, [.int (w4 1), .int (w7 1), .ref (w6 1), .int (w5 1), .long (w8 1)])), ((w6 1), .inl (cI, 8, .inl (w2 1))), ((w3 2), .inr (1, [.int (w4 2), .int (w7 2), .ref (w6 2), .int (w5 2), .long (w8 2)])), ((w6 2), .inl (cI, 8, .inl (w2 2))), ((w3 3), .inr (1, [.int (w4 3), .int (w7 3), .ref (w6 3), .int (w5 3), .long (w8 3)])), ((w6 3), .inl (cI, 8, .inl (w2 3))), ((w3 4), .inr (1, [.int (w4 4), .int (w7 4), .ref (w6 4), .int (w5 4), .long (w8 4)])), ((w6 4), .inl (cI, 8, .inl (w2 4))), ((w3 5), .inr (1, [.int (w4 5), .int (w7 5), .ref (w6 5), .int (w5 5), .long (w8 5)])), ((w6 5), .inl (cI, 8, .inl (w2 5))), ((w3 6), .inr (1, [.int (w4 6), .int (w7 6), .ref (w6 6), .int (w5 6), .long (w8 6)])), ((w6 6), .inl (cI, 8, .inl (w2 6))), ((w3 7), .inr (1, [.int (w4 7), .int (w7 7), .ref (w6 7), .int (w5 7), .long (w8 7)])), ((w6 7), .inl (cI, 8, .inl (w2 7))), ((w3 8), .inr (1, [.int (w4 8), .int (w7 8), .ref (w6 8), .int (w5 8), .long (w8 8)])), ((w6 8), .inl (cI, 8, .inl (w2 8))), (h_p0_powers, .inl (cI, 8, .inl a_p0_powers))]) A) ([.ref h_t, .ref h_p0] : List Value).toArray s 0 0 A) (F0 m 25 ls []) := by
  have hta : ∀ w ∈ wA, w.before ([.ref h_t, .ref h_p0] : List Value).toArray s = true := hta_of hts
  have hinX0 : ∀ w ∈ wsX00, w ∈ wsX0_settle := hin_of in_X0
  intro vJ25_0 vJ25_1 vJ25_2 vJ25_3 vJ25_4 vJ25_5 vJ25_6 vJ25_7 H locs ls hP hD hS hl h
  unfold J_X0_settle_25 at h
  refine lv_aload_n hx hb dX0_settle_25 rfl (lv_at hl 0 rfl) ?_
  refine lv_dup hx hb dX0_settle_26 rfl ?_
  refine va_get (D := G) (ci := 0) (v := .int vJ25_0) (C := RX0) (T := TX0) (N := 3) hx hb hts hinX0 hown hK hP 0 rfl rfl 1 (by decide) (hta _ mw_16) (fun _ h9 => h9) rfl dX0_settle_27 ?_
  refine lv_iconst (v := (1 : Int32)) hx hb dX0_settle_30 (by decide) ?_
  refine lv_iadd hx hb dX0_settle_31 ?_
  refine va_put (D := G) (ci := 0) (v := .int (vJ25_0 + (1 : Int32))) (ty := .int) (C := RX0) (T := TX0) (N := 3) hx hb hts hinX0 tyX0 tyX0_ok nmX0 hown hK hP hD hS 0 rfl rfl 1 (by decide) (hta _ mw_16) (fun _ h9 => h9) rfl (by decide +kernel) rfl rfl (Nat.le_of_ble_eq_true rfl) dX0_settle_32 (fun H locs hP hD hS => ?_)
  have hP : va_P G vwCl [(h_t, .inr (0, [.ref h_t_desks, .int (vJ25_0 + (1 : Int32)), .int t_last])), (h_p0, .inr (1, [.int p0_genus, .int p0_size, .ref h_p0_powers, .int p0_limit, .long p0_tree])), (h_t_desks, .inl (cD, 9, .inr (.inr (.inr (.inr (fun i => some (vJ25_2 i))))))), ((vJ25_2 0), .inr (1, [.int (vJ25_3 0), .int (vJ25_6 0), .ref (vJ25_5 0), .int (vJ25_4 0), .long (vJ25_7 0)])), ((vJ25_5 0), .inl (cI, 8, .inl (vJ25_1 0))), ((vJ25_2 1), .inr (1, [.int (vJ25_3 1), .int (vJ25_6 1), .ref (vJ25_5 1), .int (vJ25_4 1), .long (vJ25_7 1)])), ((vJ25_5 1), .inl (cI, 8, .inl (vJ25_1 1))), ((vJ25_2 2), .inr (1, [.int (vJ25_3 2), .int (vJ25_6 2), .ref (vJ25_5 2), .int (vJ25_4 2), .long (vJ25_7 2)])), ((vJ25_5 2), .inl (cI, 8, .inl (vJ25_1 2))), ((vJ25_2 3), .inr (1, [.int (vJ25_3 3), .int (vJ25_6 3), .ref (vJ25_5 3), .int (vJ25_4 3), .long (vJ25_7 3)])), ((vJ25_5 3), .inl (cI, 8, .inl (vJ25_1 3))), ((vJ25_2 4), .inr (1, [.int (vJ25_3 4), .int (vJ25_6 4), .ref (vJ25_5 4), .int (vJ25_4 4), .long (vJ25_7 4)])), ((vJ25_5 4), .inl (cI, 8, .inl (vJ25_1 4))), ((vJ25_2 5), .inr (1, [.int (vJ25_3 5), .int (vJ25_6 5), .ref (vJ25_5 5), .int (vJ25_4 5), .long (vJ25_7 5)])), ((vJ25_5 5), .inl (cI, 8, .inl (vJ25_1 5))), ((vJ25_2 6), .inr (1, [.int (vJ25_3 6), .int (vJ25_6 6), .ref (vJ25_5 6), .int (vJ25_4 6), .long (vJ25_7 6)])), ((vJ25_5 6), .inl (cI, 8, .inl (vJ25_1 6))), ((vJ25_2 7), .inr (1, [.int (vJ25_3 7), .int (vJ25_6 7), .ref (vJ25_5 7), .int (vJ25_4 7), .long (vJ25_7 7)])), ((vJ25_5 7), .inl (cI, 8, .inl (vJ25_1 7))), ((vJ25_2 8), .inr (1, [.int (vJ25_3 8), .int (vJ25_6 8), .ref (vJ25_5 8), .int (vJ25_4 8), .long (vJ25_7 8)])), ((vJ25_5 8), .inl (cI, 8, .inl (vJ25_1 8))), (h_p0_powers, .inl (cI, 8, .inl a_p0_powers))] H := hP
  have hD : va_D A [(h_t, .inr (0, [.ref h_t_desks, .int (vJ25_0 + (1 : Int32)), .int t_last])), (h_p0, .inr (1, [.int p0_genus, .int p0_size, .ref h_p0_powers, .int p0_limit, .long p0_tree])), (h_t_desks, .inl (cD, 9, .inr (.inr (.inr (.inr (fun i => some (vJ25_2 i))))))), ((vJ25_2 0), .inr (1, [.int (vJ25_3 0), .int (vJ25_6 0), .ref (vJ25_5 0), .int (vJ25_4 0), .long (vJ25_7 0)])), ((vJ25_5 0), .inl (cI, 8, .inl (vJ25_1 0))), ((vJ25_2 1), .inr (1, [.int (vJ25_3 1), .int (vJ25_6 1), .ref (vJ25_5 1), .int (vJ25_4 1), .long (vJ25_7 1)])), ((vJ25_5 1), .inl (cI, 8, .inl (vJ25_1 1))), ((vJ25_2 2), .inr (1, [.int (vJ25_3 2), .int (vJ25_6 2), .ref (vJ25_5 2), .int (vJ25_4 2), .long (vJ25_7 2)])), ((vJ25_5 2), .inl (cI, 8, .inl (vJ25_1 2))), ((vJ25_2 3), .inr (1, [.int (vJ25_3 3), .int (vJ25_6 3), .ref (vJ25_5 3), .int (vJ25_4 3), .long (vJ25_7 3)])), ((vJ25_5 3), .inl (cI, 8, .inl (vJ25_1 3))), ((vJ25_2 4), .inr (1, [.int (vJ25_3 4), .int (vJ25_6 4), .ref (vJ25_5 4), .int (vJ25_4 4), .long (vJ25_7 4)])), ((vJ25_5 4), .inl (cI, 8, .inl (vJ25_1 4))), ((vJ25_2 5), .inr (1, [.int (vJ25_3 5), .int (vJ25_6 5), .ref (vJ25_5 5), .int (vJ25_4 5), .long (vJ25_7 5)])), ((vJ25_5 5), .inl (cI, 8, .inl (vJ25_1 5))), ((vJ25_2 6), .inr (1, [.int (vJ25_3 6), .int (vJ25_6 6), .ref (vJ25_5 6), .int (vJ25_4 6), .long (vJ25_7 6)])), ((vJ25_5 6), .inl (cI, 8, .inl (vJ25_1 6))), ((vJ25_2 7), .inr (1, [.int (vJ25_3 7), .int (vJ25_6 7), .ref (vJ25_5 7), .int (vJ25_4 7), .long (vJ25_7 7)])), ((vJ25_5 7), .inl (cI, 8, .inl (vJ25_1 7))), ((vJ25_2 8), .inr (1, [.int (vJ25_3 8), .int (vJ25_6 8), .ref (vJ25_5 8), .int (vJ25_4 8), .long (vJ25_7 8)])), ((vJ25_5 8), .inl (cI, 8, .inl (vJ25_1 8))), (h_p0_powers, .inl (cI, 8, .inl a_p0_powers))] := hD
  refine lv_aload_n hx hb dX0_settle_35 rfl (lv_at hl 0 rfl) ?_
  refine lv_aload_n hx hb dX0_settle_36 rfl (lv_at hl 0 rfl) ?_
  refine va_get (D := G) (ci := 0) (v := .int (vJ25_0 + (1 : Int32))) (C := RX0) (T := TX0) (N := 3) hx hb hts hinX0 hown hK hP 0 rfl rfl 1 (by decide) (hta _ mw_16) (fun _ h9 => h9) rfl dX0_settle_37 ?_
  refine va_put (D := G) (ci := 0) (v := .int (vJ25_0 + (1 : Int32))) (ty := .int) (C := RX0) (T := TX0) (N := 3) hx hb hts hinX0 tyX0 tyX0_ok nmX0 hown hK hP hD hS 0 rfl rfl 2 (by decide) (hta _ mw_18) (fun _ h9 => h9) rfl (by decide +kernel) rfl rfl (Nat.le_of_ble_eq_true rfl) dX0_settle_40 (fun H locs hP hD hS => ?_)
  have hP : va_P G vwCl [(h_t, .inr (0, [.ref h_t_desks, .int (vJ25_0 + (1 : Int32)), .int (vJ25_0 + (1 : Int32))])), (h_p0, .inr (1, [.int p0_genus, .int p0_size, .ref h_p0_powers, .int p0_limit, .long p0_tree])), (h_t_desks, .inl (cD, 9, .inr (.inr (.inr (.inr (fun i => some (vJ25_2 i))))))), ((vJ25_2 0), .inr (1, [.int (vJ25_3 0), .int (vJ25_6 0), .ref (vJ25_5 0), .int (vJ25_4 0), .long (vJ25_7 0)])), ((vJ25_5 0), .inl (cI, 8, .inl (vJ25_1 0))), ((vJ25_2 1), .inr (1, [.int (vJ25_3 1), .int (vJ25_6 1), .ref (vJ25_5 1), .int (vJ25_4 1), .long (vJ25_7 1)])), ((vJ25_5 1), .inl (cI, 8, .inl (vJ25_1 1))), ((vJ25_2 2), .inr (1, [.int (vJ25_3 2), .int (vJ25_6 2), .ref (vJ25_5 2), .int (vJ25_4 2), .long (vJ25_7 2)])), ((vJ25_5 2), .inl (cI, 8, .inl (vJ25_1 2))), ((vJ25_2 3), .inr (1, [.int (vJ25_3 3), .int (vJ25_6 3), .ref (vJ25_5 3), .int (vJ25_4 3), .long (vJ25_7 3)])), ((vJ25_5 3), .inl (cI, 8, .inl (vJ25_1 3))), ((vJ25_2 4), .inr (1, [.int (vJ25_3 4), .int (vJ25_6 4), .ref (vJ25_5 4), .int (vJ25_4 4), .long (vJ25_7 4)])), ((vJ25_5 4), .inl (cI, 8, .inl (vJ25_1 4))), ((vJ25_2 5), .inr (1, [.int (vJ25_3 5), .int (vJ25_6 5), .ref (vJ25_5 5), .int (vJ25_4 5), .long (vJ25_7 5)])), ((vJ25_5 5), .inl (cI, 8, .inl (vJ25_1 5))), ((vJ25_2 6), .inr (1, [.int (vJ25_3 6), .int (vJ25_6 6), .ref (vJ25_5 6), .int (vJ25_4 6), .long (vJ25_7 6)])), ((vJ25_5 6), .inl (cI, 8, .inl (vJ25_1 6))), ((vJ25_2 7), .inr (1, [.int (vJ25_3 7), .int (vJ25_6 7), .ref (vJ25_5 7), .int (vJ25_4 7), .long (vJ25_7 7)])), ((vJ25_5 7), .inl (cI, 8, .inl (vJ25_1 7))), ((vJ25_2 8), .inr (1, [.int (vJ25_3 8), .int (vJ25_6 8), .ref (vJ25_5 8), .int (vJ25_4 8), .long (vJ25_7 8)])), ((vJ25_5 8), .inl (cI, 8, .inl (vJ25_1 8))), (h_p0_powers, .inl (cI, 8, .inl a_p0_powers))] H := hP
  have hD : va_D A [(h_t, .inr (0, [.ref h_t_desks, .int (vJ25_0 + (1 : Int32)), .int (vJ25_0 + (1 : Int32))])), (h_p0, .inr (1, [.int p0_genus, .int p0_size, .ref h_p0_powers, .int p0_limit, .long p0_tree])), (h_t_desks, .inl (cD, 9, .inr (.inr (.inr (.inr (fun i => some (vJ25_2 i))))))), ((vJ25_2 0), .inr (1, [.int (vJ25_3 0), .int (vJ25_6 0), .ref (vJ25_5 0), .int (vJ25_4 0), .long (vJ25_7 0)])), ((vJ25_5 0), .inl (cI, 8, .inl (vJ25_1 0))), ((vJ25_2 1), .inr (1, [.int (vJ25_3 1), .int (vJ25_6 1), .ref (vJ25_5 1), .int (vJ25_4 1), .long (vJ25_7 1)])), ((vJ25_5 1), .inl (cI, 8, .inl (vJ25_1 1))), ((vJ25_2 2), .inr (1, [.int (vJ25_3 2), .int (vJ25_6 2), .ref (vJ25_5 2), .int (vJ25_4 2), .long (vJ25_7 2)])), ((vJ25_5 2), .inl (cI, 8, .inl (vJ25_1 2))), ((vJ25_2 3), .inr (1, [.int (vJ25_3 3), .int (vJ25_6 3), .ref (vJ25_5 3), .int (vJ25_4 3), .long (vJ25_7 3)])), ((vJ25_5 3), .inl (cI, 8, .inl (vJ25_1 3))), ((vJ25_2 4), .inr (1, [.int (vJ25_3 4), .int (vJ25_6 4), .ref (vJ25_5 4), .int (vJ25_4 4), .long (vJ25_7 4)])), ((vJ25_5 4), .inl (cI, 8, .inl (vJ25_1 4))), ((vJ25_2 5), .inr (1, [.int (vJ25_3 5), .int (vJ25_6 5), .ref (vJ25_5 5), .int (vJ25_4 5), .long (vJ25_7 5)])), ((vJ25_5 5), .inl (cI, 8, .inl (vJ25_1 5))), ((vJ25_2 6), .inr (1, [.int (vJ25_3 6), .int (vJ25_6 6), .ref (vJ25_5 6), .int (vJ25_4 6), .long (vJ25_7 6)])), ((vJ25_5 6), .inl (cI, 8, .inl (vJ25_1 6))), ((vJ25_2 7), .inr (1, [.int (vJ25_3 7), .int (vJ25_6 7), .ref (vJ25_5 7), .int (vJ25_4 7), .long (vJ25_7 7)])), ((vJ25_5 7), .inl (cI, 8, .inl (vJ25_1 7))), ((vJ25_2 8), .inr (1, [.int (vJ25_3 8), .int (vJ25_6 8), .ref (vJ25_5 8), .int (vJ25_4 8), .long (vJ25_7 8)])), ((vJ25_5 8), .inl (cI, 8, .inl (vJ25_1 8))), (h_p0_powers, .inl (cI, 8, .inl a_p0_powers))] := hD
  refine lv_aload_n hx hb dX0_settle_43 rfl (lv_at hl 0 rfl) ?_
  obtain ⟨x1, hx1, h⟩ := bd_e h
  try dsimp only at h
  have hb1 := k_lt_X0_present hx1
  refine k_VqU (n := 0) (As := []) (rest := []) hx hb hml hown hts (c_X0_present l G cI cJ cD cH H.size h_t h_t_desks vJ25_2 vJ25_5 vJ25_1 vJ25_3 vJ25_6 vJ25_4 vJ25_7 (vJ25_0 + (1 : Int32)) (vJ25_0 + (1 : Int32)) x1 hx1) gX0_settle_X0_present rfl rfl rfl (by decide +kernel) ⟨by first | exact Nat.le_of_ble_eq_true rfl | (simp only [headSpec]; omega), by first | exact Nat.le_of_ble_eq_true rfl | (simp only [headSpec]; omega)⟩ hK hP hD hS hA [0, 2, 3, 4, 5, 6, 7, 8, 9, 10, 11, 12, 13, 14, 15, 16, 17, 18, 19, 20] (by decide) rfl (ci := 0) rfl rfl rfl rfl rfl hl.1 (Nat.le_of_ble_eq_true rfl) dX0_settle_44 ⟨Nat.zero_le _, Nat.zero_le _⟩ (fun hp1 H locs hP hS => ?_)
  refine W.eq (g2 := F0 m 47 ls [.ref (vJ25_2 x1)]) rfl ?_
  refine lv_aload_n hx hb dX0_settle_47 rfl (lv_at hl 1 rfl) ?_
  obtain ⟨x2, hx2, h⟩ := bd_e h
  try dsimp only at h
  refine k_VvR (n := 1) (As := [.ref h_p0]) (rest := []) hx hb hml hown hts (c_X1_copyFrom l G cI cJ cD cH H.size (vJ25_2 x1) h_p0 (vJ25_5 x1) h_p0_powers (vJ25_3 x1) (vJ25_6 x1) (vJ25_4 x1) (vJ25_7 x1) p0_genus p0_size p0_limit p0_tree (vJ25_1 x1) a_p0_powers (x2.1) (x2.2.1) (x2.2.2.1) (x2.2.2.2.1) (x2.2.2.2.2) hx2) gX0_settle_X1_copyFrom rfl rfl rfl (by decide +kernel) ⟨by first | exact Nat.le_of_ble_eq_true rfl | (simp only [headSpec]; omega), by first | exact Nat.le_of_ble_eq_true rfl | (simp only [headSpec]; omega)⟩ hK hP hD hS hA [(3 + 2 * x1), 1, (4 + 2 * x1), 21] (by obtain rfl | rfl | rfl | rfl | rfl | rfl | rfl | rfl | rfl := k_lt9 hb1 <;> decide) (by obtain rfl | rfl | rfl | rfl | rfl | rfl | rfl | rfl | rfl := k_lt9 hb1 <;> rfl) rfl (ci := 1) rfl rfl rfl rfl rfl hl.1 (Nat.le_of_ble_eq_true rfl) dX0_settle_48 ⟨Nat.zero_le _, Nat.zero_le _⟩ [(h_t, .inr (0, [.ref h_t_desks, .int (vJ25_0 + (1 : Int32)), .int (vJ25_0 + (1 : Int32))])), (h_p0, .inr (1, [.int p0_genus, .int p0_size, .ref h_p0_powers, .int p0_limit, .long p0_tree])), (h_t_desks, .inl (cD, 9, .inr (.inr (.inr (.inr (fun i => some (vJ25_2 i))))))), ((vJ25_2 0), .inr (1, [.int ((va_up vJ25_3 x1 (x2.2.1)) 0), .int ((va_up vJ25_6 x1 (x2.2.2.1)) 0), .ref (vJ25_5 0), .int ((va_up vJ25_4 x1 (x2.2.2.2.1)) 0), .long ((va_up vJ25_7 x1 (x2.2.2.2.2)) 0)])), ((vJ25_5 0), .inl (cI, 8, .inl ((va_up vJ25_1 x1 (x2.1)) 0))), ((vJ25_2 1), .inr (1, [.int ((va_up vJ25_3 x1 (x2.2.1)) 1), .int ((va_up vJ25_6 x1 (x2.2.2.1)) 1), .ref (vJ25_5 1), .int ((va_up vJ25_4 x1 (x2.2.2.2.1)) 1), .long ((va_up vJ25_7 x1 (x2.2.2.2.2)) 1)])), ((vJ25_5 1), .inl (cI, 8, .inl ((va_up vJ25_1 x1 (x2.1)) 1))), ((vJ25_2 2), .inr (1, [.int ((va_up vJ25_3 x1 (x2.2.1)) 2), .int ((va_up vJ25_6 x1 (x2.2.2.1)) 2), .ref (vJ25_5 2), .int ((va_up vJ25_4 x1 (x2.2.2.2.1)) 2), .long ((va_up vJ25_7 x1 (x2.2.2.2.2)) 2)])), ((vJ25_5 2), .inl (cI, 8, .inl ((va_up vJ25_1 x1 (x2.1)) 2))), ((vJ25_2 3), .inr (1, [.int ((va_up vJ25_3 x1 (x2.2.1)) 3), .int ((va_up vJ25_6 x1 (x2.2.2.1)) 3), .ref (vJ25_5 3), .int ((va_up vJ25_4 x1 (x2.2.2.2.1)) 3), .long ((va_up vJ25_7 x1 (x2.2.2.2.2)) 3)])), ((vJ25_5 3), .inl (cI, 8, .inl ((va_up vJ25_1 x1 (x2.1)) 3))), ((vJ25_2 4), .inr (1, [.int ((va_up vJ25_3 x1 (x2.2.1)) 4), .int ((va_up vJ25_6 x1 (x2.2.2.1)) 4), .ref (vJ25_5 4), .int ((va_up vJ25_4 x1 (x2.2.2.2.1)) 4), .long ((va_up vJ25_7 x1 (x2.2.2.2.2)) 4)])), ((vJ25_5 4), .inl (cI, 8, .inl ((va_up vJ25_1 x1 (x2.1)) 4))), ((vJ25_2 5), .inr (1, [.int ((va_up vJ25_3 x1 (x2.2.1)) 5), .int ((va_up vJ25_6 x1 (x2.2.2.1)) 5), .ref (vJ25_5 5), .int ((va_up vJ25_4 x1 (x2.2.2.2.1)) 5), .long ((va_up vJ25_7 x1 (x2.2.2.2.2)) 5)])), ((vJ25_5 5), .inl (cI, 8, .inl ((va_up vJ25_1 x1 (x2.1)) 5))), ((vJ25_2 6), .inr (1, [.int ((va_up vJ25_3 x1 (x2.2.1)) 6), .int ((va_up vJ25_6 x1 (x2.2.2.1)) 6), .ref (vJ25_5 6), .int ((va_up vJ25_4 x1 (x2.2.2.2.1)) 6), .long ((va_up vJ25_7 x1 (x2.2.2.2.2)) 6)])), ((vJ25_5 6), .inl (cI, 8, .inl ((va_up vJ25_1 x1 (x2.1)) 6))), ((vJ25_2 7), .inr (1, [.int ((va_up vJ25_3 x1 (x2.2.1)) 7), .int ((va_up vJ25_6 x1 (x2.2.2.1)) 7), .ref (vJ25_5 7), .int ((va_up vJ25_4 x1 (x2.2.2.2.1)) 7), .long ((va_up vJ25_7 x1 (x2.2.2.2.2)) 7)])), ((vJ25_5 7), .inl (cI, 8, .inl ((va_up vJ25_1 x1 (x2.1)) 7))), ((vJ25_2 8), .inr (1, [.int ((va_up vJ25_3 x1 (x2.2.1)) 8), .int ((va_up vJ25_6 x1 (x2.2.2.1)) 8), .ref (vJ25_5 8), .int ((va_up vJ25_4 x1 (x2.2.2.2.1)) 8), .long ((va_up vJ25_7 x1 (x2.2.2.2.2)) 8)])), ((vJ25_5 8), .inl (cI, 8, .inl ((va_up vJ25_1 x1 (x2.1)) 8))), (h_p0_powers, .inl (cI, 8, .inl a_p0_powers))] (by obtain rfl | rfl | rfl | rfl | rfl | rfl | rfl | rfl | rfl := k_lt9 hb1 <;> rfl) (by obtain rfl | rfl | rfl | rfl | rfl | rfl | rfl | rfl | rfl := k_lt9 hb1 <;> rfl) (fun hp2 H locs hP hD hS => ?_)
  have h9 := Option.some.inj h
  have e9 : (vJ25_0 + (1 : Int32)) = w0 := congrArg (fun z9 => z9.1) h9
  rw [← e9]
  have e9 : (vJ25_0 + (1 : Int32)) = w1 := congrArg (fun z9 => z9.2.1) h9
  rw [← e9]
  have e9 : (va_up vJ25_1 x1 (x2.1)) = w2 := congrArg (fun z9 => z9.2.2.1) h9
  rw [← e9]
  have e9 : vJ25_2 = w3 := congrArg (fun z9 => z9.2.2.2.1) h9
  rw [← e9]
  have e9 : (va_up vJ25_3 x1 (x2.2.1)) = w4 := congrArg (fun z9 => z9.2.2.2.2.1) h9
  rw [← e9]
  have e9 : (va_up vJ25_4 x1 (x2.2.2.2.1)) = w5 := congrArg (fun z9 => z9.2.2.2.2.2.1) h9
  rw [← e9]
  have e9 : vJ25_5 = w6 := congrArg (fun z9 => z9.2.2.2.2.2.2.1) h9
  rw [← e9]
  have e9 : (va_up vJ25_6 x1 (x2.2.2.1)) = w7 := congrArg (fun z9 => z9.2.2.2.2.2.2.2.1) h9
  rw [← e9]
  have e9 : (va_up vJ25_7 x1 (x2.2.2.2.2)) = w8 := congrArg (fun z9 => z9.2.2.2.2.2.2.2.2) h9
  rw [← e9]
  exact k_vretP hx hb hr hlocks hD hP hS dX0_settle_51
set_option maxHeartbeats 40000000 in
set_option maxRecDepth 100000 in
theorem tJ_X0_settle_12 {l : Launch} {G : va_G} {cI cJ cD cH : ClassId} {h_t : Nat} {h_p0 : Nat} {h_t_desks : Nat} {h_p0_powers : Nat} {d_t_desks : Nat → Nat} {q_t_desks : Nat → Nat} {a_t_desks : Nat → Nat → Int32} {t_desks_genus : Nat → Int32} {t_desks_size : Nat → Int32} {t_desks_limit : Nat → Int32} {t_desks_tree : Nat → Int64} {t_now : Int32} {t_last : Int32} {p0_genus : Int32} {p0_size : Int32} {p0_limit : Int32} {p0_tree : Int64} {a_p0_powers : Nat → Int32} {w0 : Int32} {w1 : Int32} {w2 : Nat → Nat → Int32} {w3 : Nat → Nat} {w4 : Nat → Int32} {w5 : Nat → Int32} {w6 : Nat → Nat} {w7 : Nat → Int32} {w8 : Nat → Int64} {p : Program} {e : Env} {s : State} {m : MethodId} {below : List Frame} {meth : Method} {c : Code} {A : Nat → Prop} (hx : p.tables.exec = Jvm.exec) (hb : c.code = cX0_settle) (hr : meth.sig.returnType = none) (hml : c.maxLocals = 2) (hts : ∀ w ∈ wsX0_settle, w.before ([.ref h_t, .ref h_p0] : List Value).toArray s = true) (hown : s.vm.findClass RX0 = some m.cls) (hlocks : meth.locks = false) (hK : va_K G vwCl (k_T cI cJ cD cH) s) (hA : ∀ q : Nat, s.heap.size ≤ q → A q) : ∀ (H : Heap) (locs : List Loc) (ls : Array Slot), va_P G vwCl [(h_t, .inr (0, [.ref h_t_desks, .int t_now, .int t_last])), (h_p0, .inr (1, [.int p0_genus, .int p0_size, .ref h_p0_powers, .int p0_limit, .long p0_tree])), (h_t_desks, .inl (cD, 9, .inr (.inr (.inr (.inr (fun i => some (d_t_desks i))))))), ((d_t_desks 0), .inr (1, [.int (t_desks_genus 0), .int (t_desks_size 0), .ref (q_t_desks 0), .int (t_desks_limit 0), .long (t_desks_tree 0)])), ((q_t_desks 0), .inl (cI, 8, .inl (a_t_desks 0))), ((d_t_desks 1), .inr (1, [.int (t_desks_genus 1), .int (t_desks_size 1), .ref (q_t_desks 1), .int (t_desks_limit 1), .long (t_desks_tree 1)])), ((q_t_desks 1), .inl (cI, 8, .inl (a_t_desks 1))), ((d_t_desks 2), .inr (1, [.int (t_desks_genus 2), .int (t_desks_size 2), .ref (q_t_desks 2), .int (t_desks_limit 2), .long (t_desks_tree 2)])), ((q_t_desks 2), .inl (cI, 8, .inl (a_t_desks 2))), ((d_t_desks 3), .inr (1, [.int (t_desks_genus 3), .int (t_desks_size 3), .ref (q_t_desks 3), .int (t_desks_limit 3), .long (t_desks_tree 3)])), ((q_t_desks 3), .inl (cI, 8, .inl (a_t_desks 3))), ((d_t_desks 4), .inr (1, [.int (t_desks_genus 4), .int (t_desks_size 4), .ref (q_t_desks 4), .int (t_desks_limit 4), .long (t_desks_tree 4)])), ((q_t_desks 4), .inl (cI, 8, .inl (a_t_desks 4))), ((d_t_desks 5), .inr (1, [.int (t_desks_genus 5), .int (t_desks_size 5), .ref (q_t_desks 5), .int (t_desks_limit 5), .long (t_desks_tree 5)])), ((q_t_desks 5), .inl (cI, 8, .inl (a_t_desks 5))), ((d_t_desks 6), .inr (1, [.int (t_desks_genus 6), .int (t_desks_size 6), .ref (q_t_desks 6), .int (t_desks_limit 6), .long (t_desks_tree 6)])), ((q_t_desks 6), .inl (cI, 8, .inl (a_t_desks 6))), ((d_t_desks 7), .inr (1, [.int (t_desks_genus 7), .int (t_desks_size 7), .ref (q_t_desks 7), .int (t_desks_limit 7), .long (t_desks_tree 7)])), ((q_t_desks 7), .inl (cI, 8, .inl (a_t_desks 7))), ((d_t_desks 8), .inr (1, [.int (t_desks_genus 8), .int (t_desks_size 8), .ref (q_t_desks 8), .int (t_desks_limit 8), .long (t_desks_tree 8)])), ((q_t_desks 8), .inl (cI, 8, .inl (a_t_desks 8))), (h_p0_powers, .inl (cI, 8, .inl a_p0_powers))] H → va_D A [(h_t, .inr (0, [.ref h_t_desks, .int t_now, .int t_last])), (h_p0, .inr (1, [.int p0_genus, .int p0_size, .ref h_p0_powers, .int p0_limit, .long p0_tree])), (h_t_desks, .inl (cD, 9, .inr (.inr (.inr (.inr (fun i => some (d_t_desks i))))))), ((d_t_desks 0), .inr (1, [.int (t_desks_genus 0), .int (t_desks_size 0), .ref (q_t_desks 0), .int (t_desks_limit 0), .long (t_desks_tree 0)])), ((q_t_desks 0), .inl (cI, 8, .inl (a_t_desks 0))), ((d_t_desks 1), .inr (1, [.int (t_desks_genus 1), .int (t_desks_size 1), .ref (q_t_desks 1), .int (t_desks_limit 1), .long (t_desks_tree 1)])), ((q_t_desks 1), .inl (cI, 8, .inl (a_t_desks 1))), ((d_t_desks 2), .inr (1, [.int (t_desks_genus 2), .int (t_desks_size 2), .ref (q_t_desks 2), .int (t_desks_limit 2), .long (t_desks_tree 2)])), ((q_t_desks 2), .inl (cI, 8, .inl (a_t_desks 2))), ((d_t_desks 3), .inr (1, [.int (t_desks_genus 3), .int (t_desks_size 3), .ref (q_t_desks 3), .int (t_desks_limit 3), .long (t_desks_tree 3)])), ((q_t_desks 3), .inl (cI, 8, .inl (a_t_desks 3))), ((d_t_desks 4), .inr (1, [.int (t_desks_genus 4), .int (t_desks_size 4), .ref (q_t_desks 4), .int (t_desks_limit 4), .long (t_desks_tree 4)])), ((q_t_desks 4), .inl (cI, 8, .inl (a_t_desks 4))), ((d_t_desks 5), .inr (1, [.int (t_desks_genus 5), .int (t_desks_size 5), .ref (q_t_desks 5), .int (t_desks_limit 5), .long (t_desks_tree 5)])), ((q_t_desks 5), .inl (cI, 8, .inl (a_t_desks 5))), ((d_t_desks 6), .inr (1, [.int (t_desks_genus 6), .int (t_desks_size 6), .ref (q_t_desks 6), .int (t_desks_limit 6), .long (t_desks_tree 6)])), ((q_t_desks 6), .inl (cI, 8, .inl (a_t_desks 6))), ((d_t_desks 7), .inr (1, [.int (t_desks_genus 7), .int (t_desks_size 7), .ref (q_t_desks 7), .int (t_desks_limit 7), .long (t_desks_tree 7)])), ((q_t_desks 7), .inl (cI, 8, .inl (a_t_desks 7))), ((d_t_desks 8), .inr (1, [.int (t_desks_genus 8), .int (t_desks_size 8), .ref (q_t_desks 8), .int (t_desks_limit 8), .long (t_desks_tree 8)])), ((q_t_desks 8), .inl (cI, 8, .inl (a_t_desks 8))), (h_p0_powers, .inl (cI, 8, .inl a_p0_powers))] → va_S A s.heap H locs → lv_has ls 2 [(0, .ref h_t), (1, .ref h_p0)] → J_X0_settle_12 d_t_desks q_t_desks a_t_desks t_desks_genus t_desks_size t_desks_limit t_desks_tree t_now p0_genus p0_size p0_limit p0_tree a_p0_powers = some (w0, w1, w2, w3, w4, w5, w6, w7, w8) → W p l e (headSpec wsX0_settle ({ frames := 3, cells := 0, slots := 0, locals := 65 })).room s m ([.ref h_t, .ref h_p0] : List Value).toArray below meth c H locs 0 0 (MQ below (va_Qv (fun (_ : Unit) => True) (fun _ t => va_P G vwCl [(h_t, .inr (0, [.ref h_t_desks, .int w0, .int w1])), (h_p0, .inr (1, [.int p0_genus, .int p0_size, .ref h_p0_powers, .int p0_limit, .long p0_tree])), (h_t_desks, .inl (cD, 9, .inr (.inr (.inr (.inr (fun i => some (w3 i))))))), ((w3 0), .inr (1, [.int (w4 0), .int (w7 0), .ref (w6 0), .int (w5 0), .long (w8 0)])), ((w6 0), .inl (cI, 8, .inl (w2 0))), ((w3 1), .inr (1, [.int (w4 1), .int (w7 1), .ref (w6 1), .int (w5 1), .long (w8 1)])), ((w6 1), .inl (cI, 8, .inl (w2 1))), ((w3 2), .inr (1, [.int (w4 2), .int (w7 2), .ref (w6 2), .int (w5 2), .long (w8 2)])), ((w6 2), .inl (cI, 8, .inl (w2 2))), ((w3 3), .inr (1, [.int (w4 3), .int (w7 3), .ref (w6 3), .int (w5 3), .long (w8 3)])), ((w6 3), .inl (cI, 8, .inl (w2 3))), ((w3 4), .inr (1, [.int (w4 4), .int (w7 4), .ref (w6 4), .int (w5 4), .long (w8 4)])), ((w6 4), .inl (cI, 8, .inl (w2 4))), ((w3 5), .inr (1, [.int (w4 5), .int (w7 5), .ref (w6 5), .int (w5 5), .long (w8 5)])), ((w6 5), .inl (cI, 8, .inl (w2 5))), ((w3 6), .inr (1, [.int (w4 6), .int (w7 6), .ref (w6 6), .int (w5 6), .long (w8 6)])), ((w6 6), .inl (cI, 8, .inl (w2 6))), ((w3 7), .inr (1, [.int (w4 7), .int (w7 7), .ref (w6 7), .int (w5 7), .long (w8 7)])), ((w6 7), .inl (cI, 8, .inl (w2 7))), ((w3 8), .inr (1, [.int (w4 8), .int (w7 8), .ref (w6 8), .int (w5 8), .long (w8 8)])), ((w6 8), .inl (cI, 8, .inl (w2 8))), (h_p0_powers, .inl (cI, 8, .inl a_p0_powers))] t.heap ∧ va_D A [(h_t, .inr (0, [.ref h_t_desks, .int w0, .int w1])), (h_p0, .inr (1, [.int p0_genus, .int p0_size, .ref h_p0_powers, .int p0_limit, .long p0_tree])), (h_t_desks, .inl (cD, 9, .inr (.inr (.inr (.inr (fun i => some (w3 i))))))), ((w3 0), .inr (1, [.int (w4 0), .int (w7 0), .ref (w6 0), .int (w5 0), .long (w8 0)])), ((w6 0), .inl (cI, 8, .inl (w2 0))), ((w3 1), .inr (1, [.int (w4 1), .int (w7 1), .ref (w6 1), .int (w5 1), .long (w8 1)])), ((w6 1), .inl (cI, 8, .inl (w2 1))), ((w3 2), .inr (1, [.int (w4 2), .int (w7 2), .ref (w6 2), .int (w5 2), .long (w8 2)])), ((w6 2), .inl (cI, 8, .inl (w2 2))), ((w3 3), .inr (1, [.int (w4 3), .int (w7 3), .ref (w6 3), .int (w5 3), .long (w8 3)])), ((w6 3), .inl (cI, 8, .inl (w2 3))), ((w3 4), .inr (1, [.int (w4 4), .int (w7 4), .ref (w6 4), .int (w5 4), .long (w8 4)])), ((w6 4), .inl (cI, 8, .inl (w2 4))), ((w3 5), .inr (1, [.int (w4 5), .int (w7 5), .ref (w6 5), .int (w5 5), .long (w8 5)])), ((w6 5), .inl (cI, 8, .inl (w2 5))), ((w3 6), .inr (1, [.int (w4 6), .int (w7 6), .ref (w6 6), .int (w5 6), .long (w8 6)])), ((w6 6), .inl (cI, 8, .inl (w2 6))), ((w3 7), .inr (1, [.int (w4 7), .int (w7 7), .ref (w6 7), .int (w5 7), .long (w8 7)])), ((w6 7), .inl (cI, 8, .inl (w2 7))), ((w3 8), .inr (1, [.int (w4 8), .int (w7 8), .ref (w6 8), .int (w5 8), .long (w8 8)])), ((w6 8), .inl (cI, 8, .inl (w2 8))), (h_p0_powers, .inl (cI, 8, .inl a_p0_powers))]) A) ([.ref h_t, .ref h_p0] : List Value).toArray s 0 0 A) (F0 m 12 ls []) := by
  have hta : ∀ w ∈ wA, w.before ([.ref h_t, .ref h_p0] : List Value).toArray s = true := hta_of hts
  have hinX0 : ∀ w ∈ wsX00, w ∈ wsX0_settle := hin_of in_X0
  intro  H locs ls hP hD hS hl h
  unfold J_X0_settle_12 at h
  refine lv_aload_n hx hb dX0_settle_12 rfl (lv_at hl 0 rfl) ?_
  refine va_get (D := G) (ci := 0) (v := .int t_now) (C := RX0) (T := TX0) (N := 3) hx hb hts hinX0 hown hK hP 0 rfl rfl 1 (by decide) (hta _ mw_16) (fun _ h9 => h9) rfl dX0_settle_13 ?_
  refine lv_bipush (v := (8 : Int32)) hx hb dX0_settle_16 (by decide) ?_
  refine lv_icmp_lt (tgt := 25) hx hb dX0_settle_18 (by decide) (fun c3 => ?_) (fun c3 => ?_)
  · have h := it_p h c3
    exact tJ_X0_settle_25 hx hb hr hml hts hown hlocks hK hA t_now a_t_desks d_t_desks t_desks_genus t_desks_limit q_t_desks t_desks_size t_desks_tree _ _ _ hP hD hS (lv_sub hl [0, 1] rfl) h
  have h := it_n h c3
  refine lv_aload_n hx hb dX0_settle_21 rfl (lv_at hl 0 rfl) ?_
  obtain ⟨x4, hx4, h⟩ := bd_e h
  try dsimp only at h
  refine k_VvPM (n := 0) (As := []) (rest := []) hx hb hml hown hts (c_X0_dropOldest l G cI cJ cD cH H.size h_t h_t_desks d_t_desks q_t_desks a_t_desks t_desks_genus t_desks_size t_desks_limit t_desks_tree t_now t_last (x4.1) (x4.2.1) (x4.2.2.1) (x4.2.2.2.1) (x4.2.2.2.2.1) (x4.2.2.2.2.2.1) (x4.2.2.2.2.2.2.1) (x4.2.2.2.2.2.2.2) hx4) gX0_settle_X0_dropOldest rfl rfl rfl (by decide +kernel) ⟨by first | exact Nat.le_of_ble_eq_true rfl | (simp only [headSpec]; omega), by first | exact Nat.le_of_ble_eq_true rfl | (simp only [headSpec]; omega)⟩ hK hP hD hS hA [0, 2, 3, 4, 5, 6, 7, 8, 9, 10, 11, 12, 13, 14, 15, 16, 17, 18, 19, 20] (by decide) rfl rfl (ci := 0) rfl rfl rfl rfl rfl hl.1 (Nat.le_of_ble_eq_true rfl) dX0_settle_22 ⟨Nat.zero_le _, Nat.zero_le _⟩ [(h_t, .inr (0, [.ref h_t_desks, .int (x4.1), .int t_last])), (h_p0, .inr (1, [.int p0_genus, .int p0_size, .ref h_p0_powers, .int p0_limit, .long p0_tree])), (h_t_desks, .inl (cD, 9, .inr (.inr (.inr (.inr (fun i => some ((x4.2.2.1) i))))))), (((x4.2.2.1) 0), .inr (1, [.int ((x4.2.2.2.1) 0), .int ((x4.2.2.2.2.2.2.1) 0), .ref ((x4.2.2.2.2.2.1) 0), .int ((x4.2.2.2.2.1) 0), .long ((x4.2.2.2.2.2.2.2) 0)])), (((x4.2.2.2.2.2.1) 0), .inl (cI, 8, .inl ((x4.2.1) 0))), (((x4.2.2.1) 1), .inr (1, [.int ((x4.2.2.2.1) 1), .int ((x4.2.2.2.2.2.2.1) 1), .ref ((x4.2.2.2.2.2.1) 1), .int ((x4.2.2.2.2.1) 1), .long ((x4.2.2.2.2.2.2.2) 1)])), (((x4.2.2.2.2.2.1) 1), .inl (cI, 8, .inl ((x4.2.1) 1))), (((x4.2.2.1) 2), .inr (1, [.int ((x4.2.2.2.1) 2), .int ((x4.2.2.2.2.2.2.1) 2), .ref ((x4.2.2.2.2.2.1) 2), .int ((x4.2.2.2.2.1) 2), .long ((x4.2.2.2.2.2.2.2) 2)])), (((x4.2.2.2.2.2.1) 2), .inl (cI, 8, .inl ((x4.2.1) 2))), (((x4.2.2.1) 3), .inr (1, [.int ((x4.2.2.2.1) 3), .int ((x4.2.2.2.2.2.2.1) 3), .ref ((x4.2.2.2.2.2.1) 3), .int ((x4.2.2.2.2.1) 3), .long ((x4.2.2.2.2.2.2.2) 3)])), (((x4.2.2.2.2.2.1) 3), .inl (cI, 8, .inl ((x4.2.1) 3))), (((x4.2.2.1) 4), .inr (1, [.int ((x4.2.2.2.1) 4), .int ((x4.2.2.2.2.2.2.1) 4), .ref ((x4.2.2.2.2.2.1) 4), .int ((x4.2.2.2.2.1) 4), .long ((x4.2.2.2.2.2.2.2) 4)])), (((x4.2.2.2.2.2.1) 4), .inl (cI, 8, .inl ((x4.2.1) 4))), (((x4.2.2.1) 5), .inr (1, [.int ((x4.2.2.2.1) 5), .int ((x4.2.2.2.2.2.2.1) 5), .ref ((x4.2.2.2.2.2.1) 5), .int ((x4.2.2.2.2.1) 5), .long ((x4.2.2.2.2.2.2.2) 5)])), (((x4.2.2.2.2.2.1) 5), .inl (cI, 8, .inl ((x4.2.1) 5))), (((x4.2.2.1) 6), .inr (1, [.int ((x4.2.2.2.1) 6), .int ((x4.2.2.2.2.2.2.1) 6), .ref ((x4.2.2.2.2.2.1) 6), .int ((x4.2.2.2.2.1) 6), .long ((x4.2.2.2.2.2.2.2) 6)])), (((x4.2.2.2.2.2.1) 6), .inl (cI, 8, .inl ((x4.2.1) 6))), (((x4.2.2.1) 7), .inr (1, [.int ((x4.2.2.2.1) 7), .int ((x4.2.2.2.2.2.2.1) 7), .ref ((x4.2.2.2.2.2.1) 7), .int ((x4.2.2.2.2.1) 7), .long ((x4.2.2.2.2.2.2.2) 7)])), (((x4.2.2.2.2.2.1) 7), .inl (cI, 8, .inl ((x4.2.1) 7))), (((x4.2.2.1) 8), .inr (1, [.int ((x4.2.2.2.1) 8), .int ((x4.2.2.2.2.2.2.1) 8), .ref ((x4.2.2.2.2.2.1) 8), .int ((x4.2.2.2.2.1) 8), .long ((x4.2.2.2.2.2.2.2) 8)])), (((x4.2.2.2.2.2.1) 8), .inl (cI, 8, .inl ((x4.2.1) 8))), (h_p0_powers, .inl (cI, 8, .inl a_p0_powers))] [1, 0, 2, 3, 4, 5, 6, 7, 8, 9, 10, 11, 12, 13, 14, 15, 16, 17, 18, 19, 20, 0] 20 (by decide +kernel) rfl rfl (fun hp4 H locs hP hD hS => ?_)
  exact tJ_X0_settle_25 hx hb hr hml hts hown hlocks hK hA (x4.1) (x4.2.1) (x4.2.2.1) (x4.2.2.2.1) (x4.2.2.2.2.1) (x4.2.2.2.2.2.1) (x4.2.2.2.2.2.2.1) (x4.2.2.2.2.2.2.2) _ _ _ hP hD hS (lv_sub hl [0, 1] rfl) h
set_option maxHeartbeats 40000000 in
set_option maxRecDepth 100000 in
theorem c_X0_settle (l : Launch) (G : va_G) (cI cJ cD cH : ClassId) (sz : Nat) (h_t : Nat) (h_p0 : Nat) (h_t_desks : Nat) (h_p0_powers : Nat) (d_t_desks : Nat → Nat) (q_t_desks : Nat → Nat) (a_t_desks : Nat → Nat → Int32) (t_desks_genus : Nat → Int32) (t_desks_size : Nat → Int32) (t_desks_limit : Nat → Int32) (t_desks_tree : Nat → Int64) (t_now : Int32) (t_last : Int32) (p0_genus : Int32) (p0_size : Int32) (p0_limit : Int32) (p0_tree : Int64) (a_p0_powers : Nat → Int32) (w0 : Int32) (w1 : Int32) (w2 : Nat → Nat → Int32) (w3 : Nat → Nat) (w4 : Nat → Int32) (w5 : Nat → Int32) (w6 : Nat → Nat) (w7 : Nat → Int32) (w8 : Nat → Int64) (hF : F_X0_settle d_t_desks q_t_desks a_t_desks t_desks_genus t_desks_size t_desks_limit t_desks_tree t_now t_last p0_genus p0_size p0_limit p0_tree a_p0_powers = some (w0, w1, w2, w3, w4, w5, w6, w7, w8)) : Met l yX0_settle wsX0_settle ({ frames := 3, cells := 0, slots := 0, locals := 65 }) (k_pre G (k_T cI cJ cD cH) [(h_t, .inr (0, [.ref h_t_desks, .int t_now, .int t_last])), (h_p0, .inr (1, [.int p0_genus, .int p0_size, .ref h_p0_powers, .int p0_limit, .long p0_tree])), (h_t_desks, .inl (cD, 9, .inr (.inr (.inr (.inr (fun i => some (d_t_desks i))))))), ((d_t_desks 0), .inr (1, [.int (t_desks_genus 0), .int (t_desks_size 0), .ref (q_t_desks 0), .int (t_desks_limit 0), .long (t_desks_tree 0)])), ((q_t_desks 0), .inl (cI, 8, .inl (a_t_desks 0))), ((d_t_desks 1), .inr (1, [.int (t_desks_genus 1), .int (t_desks_size 1), .ref (q_t_desks 1), .int (t_desks_limit 1), .long (t_desks_tree 1)])), ((q_t_desks 1), .inl (cI, 8, .inl (a_t_desks 1))), ((d_t_desks 2), .inr (1, [.int (t_desks_genus 2), .int (t_desks_size 2), .ref (q_t_desks 2), .int (t_desks_limit 2), .long (t_desks_tree 2)])), ((q_t_desks 2), .inl (cI, 8, .inl (a_t_desks 2))), ((d_t_desks 3), .inr (1, [.int (t_desks_genus 3), .int (t_desks_size 3), .ref (q_t_desks 3), .int (t_desks_limit 3), .long (t_desks_tree 3)])), ((q_t_desks 3), .inl (cI, 8, .inl (a_t_desks 3))), ((d_t_desks 4), .inr (1, [.int (t_desks_genus 4), .int (t_desks_size 4), .ref (q_t_desks 4), .int (t_desks_limit 4), .long (t_desks_tree 4)])), ((q_t_desks 4), .inl (cI, 8, .inl (a_t_desks 4))), ((d_t_desks 5), .inr (1, [.int (t_desks_genus 5), .int (t_desks_size 5), .ref (q_t_desks 5), .int (t_desks_limit 5), .long (t_desks_tree 5)])), ((q_t_desks 5), .inl (cI, 8, .inl (a_t_desks 5))), ((d_t_desks 6), .inr (1, [.int (t_desks_genus 6), .int (t_desks_size 6), .ref (q_t_desks 6), .int (t_desks_limit 6), .long (t_desks_tree 6)])), ((q_t_desks 6), .inl (cI, 8, .inl (a_t_desks 6))), ((d_t_desks 7), .inr (1, [.int (t_desks_genus 7), .int (t_desks_size 7), .ref (q_t_desks 7), .int (t_desks_limit 7), .long (t_desks_tree 7)])), ((q_t_desks 7), .inl (cI, 8, .inl (a_t_desks 7))), ((d_t_desks 8), .inr (1, [.int (t_desks_genus 8), .int (t_desks_size 8), .ref (q_t_desks 8), .int (t_desks_limit 8), .long (t_desks_tree 8)])), ((q_t_desks 8), .inl (cI, 8, .inl (a_t_desks 8))), (h_p0_powers, .inl (cI, 8, .inl a_p0_powers))] sz [.ref h_t, .ref h_p0]) (va_Qv (fun (_ : Unit) => True) (fun _ t => va_P G vwCl [(h_t, .inr (0, [.ref h_t_desks, .int w0, .int w1])), (h_p0, .inr (1, [.int p0_genus, .int p0_size, .ref h_p0_powers, .int p0_limit, .long p0_tree])), (h_t_desks, .inl (cD, 9, .inr (.inr (.inr (.inr (fun i => some (w3 i))))))), ((w3 0), .inr (1, [.int (w4 0), .int (w7 0), .ref (w6 0), .int (w5 0), .long (w8 0)])), ((w6 0), .inl (cI, 8, .inl (w2 0))), ((w3 1), .inr (1, [.int (w4 1), .int (w7 1), .ref (w6 1), .int (w5 1), .long (w8 1)])), ((w6 1), .inl (cI, 8, .inl (w2 1))), ((w3 2), .inr (1, [.int (w4 2), .int (w7 2), .ref (w6 2), .int (w5 2), .long (w8 2)])), ((w6 2), .inl (cI, 8, .inl (w2 2))), ((w3 3), .inr (1, [.int (w4 3), .int (w7 3), .ref (w6 3), .int (w5 3), .long (w8 3)])), ((w6 3), .inl (cI, 8, .inl (w2 3))), ((w3 4), .inr (1, [.int (w4 4), .int (w7 4), .ref (w6 4), .int (w5 4), .long (w8 4)])), ((w6 4), .inl (cI, 8, .inl (w2 4))), ((w3 5), .inr (1, [.int (w4 5), .int (w7 5), .ref (w6 5), .int (w5 5), .long (w8 5)])), ((w6 5), .inl (cI, 8, .inl (w2 5))), ((w3 6), .inr (1, [.int (w4 6), .int (w7 6), .ref (w6 6), .int (w5 6), .long (w8 6)])), ((w6 6), .inl (cI, 8, .inl (w2 6))), ((w3 7), .inr (1, [.int (w4 7), .int (w7 7), .ref (w6 7), .int (w5 7), .long (w8 7)])), ((w6 7), .inl (cI, 8, .inl (w2 7))), ((w3 8), .inr (1, [.int (w4 8), .int (w7 8), .ref (w6 8), .int (w5 8), .long (w8 8)])), ((w6 8), .inl (cI, 8, .inl (w2 8))), (h_p0_powers, .inl (cI, 8, .inl a_p0_powers))] t.heap ∧ va_D (va_A [(h_t, .inr (0, [.ref h_t_desks, .int t_now, .int t_last])), (h_p0, .inr (1, [.int p0_genus, .int p0_size, .ref h_p0_powers, .int p0_limit, .long p0_tree])), (h_t_desks, .inl (cD, 9, .inr (.inr (.inr (.inr (fun i => some (d_t_desks i))))))), ((d_t_desks 0), .inr (1, [.int (t_desks_genus 0), .int (t_desks_size 0), .ref (q_t_desks 0), .int (t_desks_limit 0), .long (t_desks_tree 0)])), ((q_t_desks 0), .inl (cI, 8, .inl (a_t_desks 0))), ((d_t_desks 1), .inr (1, [.int (t_desks_genus 1), .int (t_desks_size 1), .ref (q_t_desks 1), .int (t_desks_limit 1), .long (t_desks_tree 1)])), ((q_t_desks 1), .inl (cI, 8, .inl (a_t_desks 1))), ((d_t_desks 2), .inr (1, [.int (t_desks_genus 2), .int (t_desks_size 2), .ref (q_t_desks 2), .int (t_desks_limit 2), .long (t_desks_tree 2)])), ((q_t_desks 2), .inl (cI, 8, .inl (a_t_desks 2))), ((d_t_desks 3), .inr (1, [.int (t_desks_genus 3), .int (t_desks_size 3), .ref (q_t_desks 3), .int (t_desks_limit 3), .long (t_desks_tree 3)])), ((q_t_desks 3), .inl (cI, 8, .inl (a_t_desks 3))), ((d_t_desks 4), .inr (1, [.int (t_desks_genus 4), .int (t_desks_size 4), .ref (q_t_desks 4), .int (t_desks_limit 4), .long (t_desks_tree 4)])), ((q_t_desks 4), .inl (cI, 8, .inl (a_t_desks 4))), ((d_t_desks 5), .inr (1, [.int (t_desks_genus 5), .int (t_desks_size 5), .ref (q_t_desks 5), .int (t_desks_limit 5), .long (t_desks_tree 5)])), ((q_t_desks 5), .inl (cI, 8, .inl (a_t_desks 5))), ((d_t_desks 6), .inr (1, [.int (t_desks_genus 6), .int (t_desks_size 6), .ref (q_t_desks 6), .int (t_desks_limit 6), .long (t_desks_tree 6)])), ((q_t_desks 6), .inl (cI, 8, .inl (a_t_desks 6))), ((d_t_desks 7), .inr (1, [.int (t_desks_genus 7), .int (t_desks_size 7), .ref (q_t_desks 7), .int (t_desks_limit 7), .long (t_desks_tree 7)])), ((q_t_desks 7), .inl (cI, 8, .inl (a_t_desks 7))), ((d_t_desks 8), .inr (1, [.int (t_desks_genus 8), .int (t_desks_size 8), .ref (q_t_desks 8), .int (t_desks_limit 8), .long (t_desks_tree 8)])), ((q_t_desks 8), .inl (cI, 8, .inl (a_t_desks 8))), (h_p0_powers, .inl (cI, 8, .inl a_p0_powers))] sz) [(h_t, .inr (0, [.ref h_t_desks, .int w0, .int w1])), (h_p0, .inr (1, [.int p0_genus, .int p0_size, .ref h_p0_powers, .int p0_limit, .long p0_tree])), (h_t_desks, .inl (cD, 9, .inr (.inr (.inr (.inr (fun i => some (w3 i))))))), ((w3 0), .inr (1, [.int (w4 0), .int (w7 0), .ref (w6 0), .int (w5 0), .long (w8 0)])), ((w6 0), .inl (cI, 8, .inl (w2 0))), ((w3 1), .inr (1, [.int (w4 1), .int (w7 1), .ref (w6 1), .int (w5 1), .long (w8 1)])), ((w6 1), .inl (cI, 8, .inl (w2 1))), ((w3 2), .inr (1, [.int (w4 2), .int (w7 2), .ref (w6 2), .int (w5 2), .long (w8 2)])), ((w6 2), .inl (cI, 8, .inl (w2 2))), ((w3 3), .inr (1, [.int (w4 3), .int (w7 3), .ref (w6 3), .int (w5 3), .long (w8 3)])), ((w6 3), .inl (cI, 8, .inl (w2 3))), ((w3 4), .inr (1, [.int (w4 4), .int (w7 4), .ref (w6 4), .int (w5 4), .long (w8 4)])), ((w6 4), .inl (cI, 8, .inl (w2 4))), ((w3 5), .inr (1, [.int (w4 5), .int (w7 5), .ref (w6 5), .int (w5 5), .long (w8 5)])), ((w6 5), .inl (cI, 8, .inl (w2 5))), ((w3 6), .inr (1, [.int (w4 6), .int (w7 6), .ref (w6 6), .int (w5 6), .long (w8 6)])), ((w6 6), .inl (cI, 8, .inl (w2 6))), ((w3 7), .inr (1, [.int (w4 7), .int (w7 7), .ref (w6 7), .int (w5 7), .long (w8 7)])), ((w6 7), .inl (cI, 8, .inl (w2 7))), ((w3 8), .inr (1, [.int (w4 8), .int (w7 8), .ref (w6 8), .int (w5 8), .long (w8 8)])), ((w6 8), .inl (cI, 8, .inl (w2 8))), (h_p0_powers, .inl (cI, 8, .inl a_p0_powers))]) (va_A [(h_t, .inr (0, [.ref h_t_desks, .int t_now, .int t_last])), (h_p0, .inr (1, [.int p0_genus, .int p0_size, .ref h_p0_powers, .int p0_limit, .long p0_tree])), (h_t_desks, .inl (cD, 9, .inr (.inr (.inr (.inr (fun i => some (d_t_desks i))))))), ((d_t_desks 0), .inr (1, [.int (t_desks_genus 0), .int (t_desks_size 0), .ref (q_t_desks 0), .int (t_desks_limit 0), .long (t_desks_tree 0)])), ((q_t_desks 0), .inl (cI, 8, .inl (a_t_desks 0))), ((d_t_desks 1), .inr (1, [.int (t_desks_genus 1), .int (t_desks_size 1), .ref (q_t_desks 1), .int (t_desks_limit 1), .long (t_desks_tree 1)])), ((q_t_desks 1), .inl (cI, 8, .inl (a_t_desks 1))), ((d_t_desks 2), .inr (1, [.int (t_desks_genus 2), .int (t_desks_size 2), .ref (q_t_desks 2), .int (t_desks_limit 2), .long (t_desks_tree 2)])), ((q_t_desks 2), .inl (cI, 8, .inl (a_t_desks 2))), ((d_t_desks 3), .inr (1, [.int (t_desks_genus 3), .int (t_desks_size 3), .ref (q_t_desks 3), .int (t_desks_limit 3), .long (t_desks_tree 3)])), ((q_t_desks 3), .inl (cI, 8, .inl (a_t_desks 3))), ((d_t_desks 4), .inr (1, [.int (t_desks_genus 4), .int (t_desks_size 4), .ref (q_t_desks 4), .int (t_desks_limit 4), .long (t_desks_tree 4)])), ((q_t_desks 4), .inl (cI, 8, .inl (a_t_desks 4))), ((d_t_desks 5), .inr (1, [.int (t_desks_genus 5), .int (t_desks_size 5), .ref (q_t_desks 5), .int (t_desks_limit 5), .long (t_desks_tree 5)])), ((q_t_desks 5), .inl (cI, 8, .inl (a_t_desks 5))), ((d_t_desks 6), .inr (1, [.int (t_desks_genus 6), .int (t_desks_size 6), .ref (q_t_desks 6), .int (t_desks_limit 6), .long (t_desks_tree 6)])), ((q_t_desks 6), .inl (cI, 8, .inl (a_t_desks 6))), ((d_t_desks 7), .inr (1, [.int (t_desks_genus 7), .int (t_desks_size 7), .ref (q_t_desks 7), .int (t_desks_limit 7), .long (t_desks_tree 7)])), ((q_t_desks 7), .inl (cI, 8, .inl (a_t_desks 7))), ((d_t_desks 8), .inr (1, [.int (t_desks_genus 8), .int (t_desks_size 8), .ref (q_t_desks 8), .int (t_desks_limit 8), .long (t_desks_tree 8)])), ((q_t_desks 8), .inl (cI, 8, .inl (a_t_desks 8))), (h_p0_powers, .inl (cI, 8, .inl a_p0_powers))] sz)) 0 0 (va_A [(h_t, .inr (0, [.ref h_t_desks, .int t_now, .int t_last])), (h_p0, .inr (1, [.int p0_genus, .int p0_size, .ref h_p0_powers, .int p0_limit, .long p0_tree])), (h_t_desks, .inl (cD, 9, .inr (.inr (.inr (.inr (fun i => some (d_t_desks i))))))), ((d_t_desks 0), .inr (1, [.int (t_desks_genus 0), .int (t_desks_size 0), .ref (q_t_desks 0), .int (t_desks_limit 0), .long (t_desks_tree 0)])), ((q_t_desks 0), .inl (cI, 8, .inl (a_t_desks 0))), ((d_t_desks 1), .inr (1, [.int (t_desks_genus 1), .int (t_desks_size 1), .ref (q_t_desks 1), .int (t_desks_limit 1), .long (t_desks_tree 1)])), ((q_t_desks 1), .inl (cI, 8, .inl (a_t_desks 1))), ((d_t_desks 2), .inr (1, [.int (t_desks_genus 2), .int (t_desks_size 2), .ref (q_t_desks 2), .int (t_desks_limit 2), .long (t_desks_tree 2)])), ((q_t_desks 2), .inl (cI, 8, .inl (a_t_desks 2))), ((d_t_desks 3), .inr (1, [.int (t_desks_genus 3), .int (t_desks_size 3), .ref (q_t_desks 3), .int (t_desks_limit 3), .long (t_desks_tree 3)])), ((q_t_desks 3), .inl (cI, 8, .inl (a_t_desks 3))), ((d_t_desks 4), .inr (1, [.int (t_desks_genus 4), .int (t_desks_size 4), .ref (q_t_desks 4), .int (t_desks_limit 4), .long (t_desks_tree 4)])), ((q_t_desks 4), .inl (cI, 8, .inl (a_t_desks 4))), ((d_t_desks 5), .inr (1, [.int (t_desks_genus 5), .int (t_desks_size 5), .ref (q_t_desks 5), .int (t_desks_limit 5), .long (t_desks_tree 5)])), ((q_t_desks 5), .inl (cI, 8, .inl (a_t_desks 5))), ((d_t_desks 6), .inr (1, [.int (t_desks_genus 6), .int (t_desks_size 6), .ref (q_t_desks 6), .int (t_desks_limit 6), .long (t_desks_tree 6)])), ((q_t_desks 6), .inl (cI, 8, .inl (a_t_desks 6))), ((d_t_desks 7), .inr (1, [.int (t_desks_genus 7), .int (t_desks_size 7), .ref (q_t_desks 7), .int (t_desks_limit 7), .long (t_desks_tree 7)])), ((q_t_desks 7), .inl (cI, 8, .inl (a_t_desks 7))), ((d_t_desks 8), .inr (1, [.int (t_desks_genus 8), .int (t_desks_size 8), .ref (q_t_desks 8), .int (t_desks_limit 8), .long (t_desks_tree 8)])), ((q_t_desks 8), .inl (cI, 8, .inl (a_t_desks 8))), (h_p0_powers, .inl (cI, 8, .inl a_p0_powers))] sz) := by
  refine Met.ofW (cc := cX0_settle) (maxL := 2) (ret := none) (by decide) rfl ?_
  intro p e s m args below meth c s₁ B hml hv
  obtain ⟨rfl, hsz, hP, hK, hD0⟩ := hv
  have hx := B.exec
  have hb := B.bytes
  have hr := B.returns
  have hts := atoms_spec (ws := wsX0_settle) B.pre
  have hta : ∀ w ∈ wA, w.before ([.ref h_t, .ref h_p0] : List Value).toArray s = true := hta_of hts
  have hown : s.vm.findClass RX0 = some m.cls := findClass_of_methodNamed B.named
  have hlocks := B.notSynchronized
  subst hsz
  have hD := hD0.self (sz := s.heap.size)
  generalize hAe : va_A [(h_t, .inr (0, [.ref h_t_desks, .int t_now, .int t_last])), (h_p0, .inr (1, [.int p0_genus, .int p0_size, .ref h_p0_powers, .int p0_limit, .long p0_tree])), (h_t_desks, .inl (cD, 9, .inr (.inr (.inr (.inr (fun i => some (d_t_desks i))))))), ((d_t_desks 0), .inr (1, [.int (t_desks_genus 0), .int (t_desks_size 0), .ref (q_t_desks 0), .int (t_desks_limit 0), .long (t_desks_tree 0)])), ((q_t_desks 0), .inl (cI, 8, .inl (a_t_desks 0))), ((d_t_desks 1), .inr (1, [.int (t_desks_genus 1), .int (t_desks_size 1), .ref (q_t_desks 1), .int (t_desks_limit 1), .long (t_desks_tree 1)])), ((q_t_desks 1), .inl (cI, 8, .inl (a_t_desks 1))), ((d_t_desks 2), .inr (1, [.int (t_desks_genus 2), .int (t_desks_size 2), .ref (q_t_desks 2), .int (t_desks_limit 2), .long (t_desks_tree 2)])), ((q_t_desks 2), .inl (cI, 8, .inl (a_t_desks 2))), ((d_t_desks 3), .inr (1, [.int (t_desks_genus 3), .int (t_desks_size 3), .ref (q_t_desks 3), .int (t_desks_limit 3), .long (t_desks_tree 3)])), ((q_t_desks 3), .inl (cI, 8, .inl (a_t_desks 3))), ((d_t_desks 4), .inr (1, [.int (t_desks_genus 4), .int (t_desks_size 4), .ref (q_t_desks 4), .int (t_desks_limit 4), .long (t_desks_tree 4)])), ((q_t_desks 4), .inl (cI, 8, .inl (a_t_desks 4))), ((d_t_desks 5), .inr (1, [.int (t_desks_genus 5), .int (t_desks_size 5), .ref (q_t_desks 5), .int (t_desks_limit 5), .long (t_desks_tree 5)])), ((q_t_desks 5), .inl (cI, 8, .inl (a_t_desks 5))), ((d_t_desks 6), .inr (1, [.int (t_desks_genus 6), .int (t_desks_size 6), .ref (q_t_desks 6), .int (t_desks_limit 6), .long (t_desks_tree 6)])), ((q_t_desks 6), .inl (cI, 8, .inl (a_t_desks 6))), ((d_t_desks 7), .inr (1, [.int (t_desks_genus 7), .int (t_desks_size 7), .ref (q_t_desks 7), .int (t_desks_limit 7), .long (t_desks_tree 7)])), ((q_t_desks 7), .inl (cI, 8, .inl (a_t_desks 7))), ((d_t_desks 8), .inr (1, [.int (t_desks_genus 8), .int (t_desks_size 8), .ref (q_t_desks 8), .int (t_desks_limit 8), .long (t_desks_tree 8)])), ((q_t_desks 8), .inl (cI, 8, .inl (a_t_desks 8))), (h_p0_powers, .inl (cI, 8, .inl a_p0_powers))] s.heap.size = A at hD ⊢
  have hA : ∀ q : Nat, s.heap.size ≤ q → A q := fun q h => by rw [← hAe]; exact Or.inr h
  have hS : va_S A s.heap s.heap [] := va_S.rf
  have hl := lv_entry ([.ref h_t, .ref h_p0]) (n := 2) (Nat.le_of_ble_eq_true rfl)
  rw [lg_entry_eq]
  generalize (lg_sl ([.ref h_t, .ref h_p0]) ++ List.replicate (2 - (lg_sl ([.ref h_t, .ref h_p0])).length) Slot.unset).toArray = ls at hl ⊢
  have hl : lv_has ls 2 [(0, .ref h_t), (1, .ref h_p0)] := hl
  have hinX0 : ∀ w ∈ wsX00, w ∈ wsX0_settle := hin_of in_X0
  have h := hF
  unfold F_X0_settle at h
  refine lv_aload_n hx hb dX0_settle_0 rfl (lv_at hl 1 rfl) ?_
  refine lv_aload_n hx hb dX0_settle_1 rfl (lv_at hl 0 rfl) ?_
  obtain ⟨x5, hx5, h⟩ := bd_e h
  try dsimp only at h
  have hb5 := k_lt_X0_present hx5
  refine k_VqU (n := 0) (As := []) (rest := [.ref h_p0]) hx hb hml hown hts (c_X0_present l G cI cJ cD cH s.heap.size h_t h_t_desks d_t_desks q_t_desks a_t_desks t_desks_genus t_desks_size t_desks_limit t_desks_tree t_now t_last x5 hx5) gX0_settle_X0_present rfl rfl rfl (by decide +kernel) ⟨by first | exact Nat.le_of_ble_eq_true rfl | (simp only [headSpec]; omega), by first | exact Nat.le_of_ble_eq_true rfl | (simp only [headSpec]; omega)⟩ hK hP hD hS hA [0, 2, 3, 4, 5, 6, 7, 8, 9, 10, 11, 12, 13, 14, 15, 16, 17, 18, 19, 20] (by decide) rfl (ci := 0) rfl rfl rfl rfl rfl hl.1 (Nat.le_of_ble_eq_true rfl) dX0_settle_2 ⟨Nat.zero_le _, Nat.zero_le _⟩ (fun hp5 H locs hP hS => ?_)
  refine W.eq (g2 := F0 m 5 ls [.ref (d_t_desks x5), .ref h_p0]) rfl ?_
  obtain ⟨x6, hx6, h⟩ := bd_e h
  try dsimp only at h
  refine k_ViU (n := 1) (As := [.ref (d_t_desks x5)]) (rest := []) hx hb hml hown hts (c_X1_isLike l G cI cJ cD cH H.size h_p0 (d_t_desks x5) h_p0_powers (q_t_desks x5) p0_genus p0_size p0_limit p0_tree (t_desks_genus x5) (t_desks_size x5) (t_desks_limit x5) (t_desks_tree x5) a_p0_powers (a_t_desks x5) x6 hx6) gX0_settle_X1_isLike rfl rfl rfl (by decide +kernel) ⟨by first | exact Nat.le_of_ble_eq_true rfl | (simp only [headSpec]; omega), by first | exact Nat.le_of_ble_eq_true rfl | (simp only [headSpec]; omega)⟩ hK hP hD hS hA [1, (3 + 2 * x5), 21, (4 + 2 * x5)] (by obtain rfl | rfl | rfl | rfl | rfl | rfl | rfl | rfl | rfl := k_lt9 hb5 <;> decide) (by obtain rfl | rfl | rfl | rfl | rfl | rfl | rfl | rfl | rfl := k_lt9 hb5 <;> rfl) (ci := 1) rfl rfl rfl rfl rfl hl.1 (Nat.le_of_ble_eq_true rfl) dX0_settle_5 ⟨Nat.zero_le _, Nat.zero_le _⟩ (fun hp6 H locs hP hS => ?_)
  refine lv_if_eq (tgt := 12) hx hb dX0_settle_8 (by decide) (fun c7 => ?_) (fun c7 => ?_)
  · have h := it_p h c7
    exact tJ_X0_settle_12 hx hb hr hml hts hown hlocks hK hA  _ _ _ hP hD hS (lv_sub hl [0, 1] rfl) h
  have h := it_n h c7
  have h9 := Option.some.inj h
  have e9 : t_now = w0 := congrArg (fun z9 => z9.1) h9
  rw [← e9]
  have e9 : t_last = w1 := congrArg (fun z9 => z9.2.1) h9
  rw [← e9]
  have e9 : a_t_desks = w2 := congrArg (fun z9 => z9.2.2.1) h9
  rw [← e9]
  have e9 : d_t_desks = w3 := congrArg (fun z9 => z9.2.2.2.1) h9
  rw [← e9]
  have e9 : t_desks_genus = w4 := congrArg (fun z9 => z9.2.2.2.2.1) h9
  rw [← e9]
  have e9 : t_desks_limit = w5 := congrArg (fun z9 => z9.2.2.2.2.2.1) h9
  rw [← e9]
  have e9 : q_t_desks = w6 := congrArg (fun z9 => z9.2.2.2.2.2.2.1) h9
  rw [← e9]
  have e9 : t_desks_size = w7 := congrArg (fun z9 => z9.2.2.2.2.2.2.2.1) h9
  rw [← e9]
  have e9 : t_desks_tree = w8 := congrArg (fun z9 => z9.2.2.2.2.2.2.2.2) h9
  rw [← e9]
  exact k_vretP hx hb hr hlocks hD hP hS dX0_settle_11

/-! X0_stepBack -/
set_option maxHeartbeats 40000000 in
set_option maxRecDepth 100000 in
theorem tJ_X0_stepBack_17 {l : Launch} {G : va_G} {cI cJ cD cH : ClassId} {h_t : Nat} {h_p0 : Nat} {h_t_desks : Nat} {h_p0_powers : Nat} {d_t_desks : Nat → Nat} {q_t_desks : Nat → Nat} {a_t_desks : Nat → Nat → Int32} {t_desks_genus : Nat → Int32} {t_desks_size : Nat → Int32} {t_desks_limit : Nat → Int32} {t_desks_tree : Nat → Int64} {t_last : Int32} {p0_genus : Int32} {p0_size : Int32} {p0_limit : Int32} {p0_tree : Int64} {a_p0_powers : Nat → Int32} {w0 : Nat → Int32} {w1 : Int32} {w2 : Int32} {w3 : Int32} {w4 : Int32} {w5 : Int64} {p : Program} {e : Env} {s : State} {m : MethodId} {below : List Frame} {meth : Method} {c : Code} {A : Nat → Prop} (hx : p.tables.exec = Jvm.exec) (hb : c.code = cX0_stepBack) (hr : meth.sig.returnType = none) (hml : c.maxLocals = 2) (hts : ∀ w ∈ wsX0_stepBack, w.before ([.ref h_t, .ref h_p0] : List Value).toArray s = true) (hown : s.vm.findClass RX0 = some m.cls) (hlocks : meth.locks = false) (hK : va_K G vwCl (k_T cI cJ cD cH) s) (hA : ∀ q : Nat, s.heap.size ≤ q → A q) : ∀  (vJ17_0 : Int32) (H : Heap) (locs : List Loc) (ls : Array Slot), va_P G vwCl [(h_t, .inr (0, [.ref h_t_desks, .int vJ17_0, .int t_last])), (h_p0, .inr (1, [.int p0_genus, .int p0_size, .ref h_p0_powers, .int p0_limit, .long p0_tree])), (h_t_desks, .inl (cD, 9, .inr (.inr (.inr (.inr (fun i => some (d_t_desks i))))))), ((d_t_desks 0), .inr (1, [.int (t_desks_genus 0), .int (t_desks_size 0), .ref (q_t_desks 0), .int (t_desks_limit 0), .long (t_desks_tree 0)])), ((q_t_desks 0), .inl (cI, 8, .inl (a_t_desks 0))), ((d_t_desks 1), .inr (1, [.int (t_desks_genus 1), .int (t_desks_size 1), .ref (q_t_desks 1), .int (t_desks_limit 1), .long (t_desks_tree 1)])), ((q_t_desks 1), .inl (cI, 8, .inl (a_t_desks 1))), ((d_t_desks 2), .inr (1, [.int (t_desks_genus 2), .int (t_desks_size 2), .ref (q_t_desks 2), .int (t_desks_limit 2), .long (t_desks_tree 2)])), ((q_t_desks 2), .inl (cI, 8, .inl (a_t_desks 2))), ((d_t_desks 3), .inr (1, [.int (t_desks_genus 3), .int (t_desks_size 3), .ref (q_t_desks 3), .int (t_desks_limit 3), .long (t_desks_tree 3)])), ((q_t_desks 3), .inl (cI, 8, .inl (a_t_desks 3))), ((d_t_desks 4), .inr (1, [.int (t_desks_genus 4), .int (t_desks_size 4), .ref (q_t_desks 4), .int (t_desks_limit 4), .long (t_desks_tree 4)])), ((q_t_desks 4), .inl (cI, 8, .inl (a_t_desks 4))), ((d_t_desks 5), .inr (1, [.int (t_desks_genus 5), .int (t_desks_size 5), .ref (q_t_desks 5), .int (t_desks_limit 5), .long (t_desks_tree 5)])), ((q_t_desks 5), .inl (cI, 8, .inl (a_t_desks 5))), ((d_t_desks 6), .inr (1, [.int (t_desks_genus 6), .int (t_desks_size 6), .ref (q_t_desks 6), .int (t_desks_limit 6), .long (t_desks_tree 6)])), ((q_t_desks 6), .inl (cI, 8, .inl (a_t_desks 6))), ((d_t_desks 7), .inr (1, [.int (t_desks_genus 7), .int (t_desks_size 7), .ref (q_t_desks 7), .int (t_desks_limit 7), .long (t_desks_tree 7)])), ((q_t_desks 7), .inl (cI, 8, .inl (a_t_desks 7))), ((d_t_desks 8), .inr (1, [.int (t_desks_genus 8), .int (t_desks_size 8), .ref (q_t_desks 8), .int (t_desks_limit 8), .long (t_desks_tree 8)])), ((q_t_desks 8), .inl (cI, 8, .inl (a_t_desks 8))), (h_p0_powers, .inl (cI, 8, .inl a_p0_powers))] H → va_D A [(h_t, .inr (0, [.ref h_t_desks, .int vJ17_0, .int t_last])), (h_p0, .inr (1, [.int p0_genus, .int p0_size, .ref h_p0_powers, .int p0_limit, .long p0_tree])), (h_t_desks, .inl (cD, 9, .inr (.inr (.inr (.inr (fun i => some (d_t_desks i))))))), ((d_t_desks 0), .inr (1, [.int (t_desks_genus 0), .int (t_desks_size 0), .ref (q_t_desks 0), .int (t_desks_limit 0), .long (t_desks_tree 0)])), ((q_t_desks 0), .inl (cI, 8, .inl (a_t_desks 0))), ((d_t_desks 1), .inr (1, [.int (t_desks_genus 1), .int (t_desks_size 1), .ref (q_t_desks 1), .int (t_desks_limit 1), .long (t_desks_tree 1)])), ((q_t_desks 1), .inl (cI, 8, .inl (a_t_desks 1))), ((d_t_desks 2), .inr (1, [.int (t_desks_genus 2), .int (t_desks_size 2), .ref (q_t_desks 2), .int (t_desks_limit 2), .long (t_desks_tree 2)])), ((q_t_desks 2), .inl (cI, 8, .inl (a_t_desks 2))), ((d_t_desks 3), .inr (1, [.int (t_desks_genus 3), .int (t_desks_size 3), .ref (q_t_desks 3), .int (t_desks_limit 3), .long (t_desks_tree 3)])), ((q_t_desks 3), .inl (cI, 8, .inl (a_t_desks 3))), ((d_t_desks 4), .inr (1, [.int (t_desks_genus 4), .int (t_desks_size 4), .ref (q_t_desks 4), .int (t_desks_limit 4), .long (t_desks_tree 4)])), ((q_t_desks 4), .inl (cI, 8, .inl (a_t_desks 4))), ((d_t_desks 5), .inr (1, [.int (t_desks_genus 5), .int (t_desks_size 5), .ref (q_t_desks 5), .int (t_desks_limit 5), .long (t_desks_tree 5)])), ((q_t_desks 5), .inl (cI, 8, .inl (a_t_desks 5))), ((d_t_desks 6), .inr (1, [.int (t_desks_genus 6), .int (t_desks_size 6), .ref (q_t_desks 6), .int (t_desks_limit 6), .long (t_desks_tree 6)])), ((q_t_desks 6), .inl (cI, 8, .inl (a_t_desks 6))), ((d_t_desks 7), .inr (1, [.int (t_desks_genus 7), .int (t_desks_size 7), .ref (q_t_desks 7), .int (t_desks_limit 7), .long (t_desks_tree 7)])), ((q_t_desks 7), .inl (cI, 8, .inl (a_t_desks 7))), ((d_t_desks 8), .inr (1, [.int (t_desks_genus 8), .int (t_desks_size 8), .ref (q_t_desks 8), .int (t_desks_limit 8), .long (t_desks_tree 8)])), ((q_t_desks 8), .inl (cI, 8, .inl (a_t_desks 8))), (h_p0_powers, .inl (cI, 8, .inl a_p0_powers))] → va_S A s.heap H locs → lv_has ls 2 [(0, .ref h_t), (1, .ref h_p0)] → J_X0_stepBack_17 a_t_desks t_desks_genus t_desks_size t_desks_limit t_desks_tree a_p0_powers vJ17_0 = some (w0, w1, w2, w3, w4, w5) → W p l e (headSpec wsX0_stepBack ({ frames := 1, cells := 0, slots := 0, locals := 22 })).room s m ([.ref h_t, .ref h_p0] : List Value).toArray below meth c H locs 0 0 (MQ below (va_Qv (fun (_ : Unit) => True) (fun _ t => va_P G vwCl [(h_t, .inr (0, [.ref h_t_desks, .int w1, .int t_last])), (h_p0, .inr (1, [.int w2, .int w3, .ref h_p0_powers, .int w4, .long w5])), (h_t_desks, .inl (cD, 9, .inr (.inr (.inr (.inr (fun i => some (d_t_desks i))))))), ((d_t_desks 0), .inr (1, [.int (t_desks_genus 0), .int (t_desks_size 0), .ref (q_t_desks 0), .int (t_desks_limit 0), .long (t_desks_tree 0)])), ((q_t_desks 0), .inl (cI, 8, .inl (a_t_desks 0))), ((d_t_desks 1), .inr (1, [.int (t_desks_genus 1), .int (t_desks_size 1), .ref (q_t_desks 1), .int (t_desks_limit 1), .long (t_desks_tree 1)])), ((q_t_desks 1), .inl (cI, 8, .inl (a_t_desks 1))), ((d_t_desks 2), .inr (1, [.int (t_desks_genus 2), .int (t_desks_size 2), .ref (q_t_desks 2), .int (t_desks_limit 2), .long (t_desks_tree 2)])), ((q_t_desks 2), .inl (cI, 8, .inl (a_t_desks 2))), ((d_t_desks 3), .inr (1, [.int (t_desks_genus 3), .int (t_desks_size 3), .ref (q_t_desks 3), .int (t_desks_limit 3), .long (t_desks_tree 3)])), ((q_t_desks 3), .inl (cI, 8, .inl (a_t_desks 3))), ((d_t_desks 4), .inr (1, [.int (t_desks_genus 4), .int (t_desks_size 4), .ref (q_t_desks 4), .int (t_desks_limit 4), .long (t_desks_tree 4)])), ((q_t_desks 4), .inl (cI, 8, .inl (a_t_desks 4))), ((d_t_desks 5), .inr (1, [.int (t_desks_genus 5), .int (t_desks_size 5), .ref (q_t_desks 5), .int (t_desks_limit 5), .long (t_desks_tree 5)])), ((q_t_desks 5), .inl (cI, 8, .inl (a_t_desks 5))), ((d_t_desks 6), .inr (1, [.int (t_desks_genus 6), .int (t_desks_size 6), .ref (q_t_desks 6), .int (t_desks_limit 6), .long (t_desks_tree 6)])), ((q_t_desks 6), .inl (cI, 8, .inl (a_t_desks 6))), ((d_t_desks 7), .inr (1, [.int (t_desks_genus 7), .int (t_desks_size 7), .ref (q_t_desks 7), .int (t_desks_limit 7), .long (t_desks_tree 7)])), ((q_t_desks 7), .inl (cI, 8, .inl (a_t_desks 7))), ((d_t_desks 8), .inr (1, [.int (t_desks_genus 8), .int (t_desks_size 8), .ref (q_t_desks 8), .int (t_desks_limit 8), .long (t_desks_tree 8)])), ((q_t_desks 8), .inl (cI, 8, .inl (a_t_desks 8))), (h_p0_powers, .inl (cI, 8, .inl w0))] t.heap) A) ([.ref h_t, .ref h_p0] : List Value).toArray s 0 0 A) (F0 m 17 ls []) := by
  have hta : ∀ w ∈ wA, w.before ([.ref h_t, .ref h_p0] : List Value).toArray s = true := hta_of hts
  have hinX0 : ∀ w ∈ wsX00, w ∈ wsX0_stepBack := hin_of in_X0
  intro vJ17_0 H locs ls hP hD hS hl h
  unfold J_X0_stepBack_17 at h
  refine lv_aload_n hx hb dX0_stepBack_17 rfl (lv_at hl 1 rfl) ?_
  refine lv_aload_n hx hb dX0_stepBack_18 rfl (lv_at hl 0 rfl) ?_
  obtain ⟨x1, hx1, h⟩ := bd_e h
  try dsimp only at h
  have hb1 := k_lt_X0_present hx1
  refine k_VqU (n := 0) (As := []) (rest := [.ref h_p0]) hx hb hml hown hts (c_X0_present l G cI cJ cD cH H.size h_t h_t_desks d_t_desks q_t_desks a_t_desks t_desks_genus t_desks_size t_desks_limit t_desks_tree vJ17_0 t_last x1 hx1) gX0_stepBack_X0_present rfl rfl rfl (by decide +kernel) ⟨by first | exact Nat.le_of_ble_eq_true rfl | (simp only [headSpec]; omega), by first | exact Nat.le_of_ble_eq_true rfl | (simp only [headSpec]; omega)⟩ hK hP hD hS hA [0, 2, 3, 4, 5, 6, 7, 8, 9, 10, 11, 12, 13, 14, 15, 16, 17, 18, 19, 20] (by decide) rfl (ci := 0) rfl rfl rfl rfl rfl hl.1 (Nat.le_of_ble_eq_true rfl) dX0_stepBack_19 ⟨Nat.zero_le _, Nat.zero_le _⟩ (fun hp1 H locs hP hS => ?_)
  refine W.eq (g2 := F0 m 22 ls [.ref (d_t_desks x1), .ref h_p0]) rfl ?_
  obtain ⟨x2, hx2, h⟩ := bd_e h
  try dsimp only at h
  refine k_VvR (n := 1) (As := [.ref (d_t_desks x1)]) (rest := []) hx hb hml hown hts (c_X1_copyFrom l G cI cJ cD cH H.size h_p0 (d_t_desks x1) h_p0_powers (q_t_desks x1) p0_genus p0_size p0_limit p0_tree (t_desks_genus x1) (t_desks_size x1) (t_desks_limit x1) (t_desks_tree x1) a_p0_powers (a_t_desks x1) (x2.1) (x2.2.1) (x2.2.2.1) (x2.2.2.2.1) (x2.2.2.2.2) hx2) gX0_stepBack_X1_copyFrom rfl rfl rfl (by decide +kernel) ⟨by first | exact Nat.le_of_ble_eq_true rfl | (simp only [headSpec]; omega), by first | exact Nat.le_of_ble_eq_true rfl | (simp only [headSpec]; omega)⟩ hK hP hD hS hA [1, (3 + 2 * x1), 21, (4 + 2 * x1)] (by obtain rfl | rfl | rfl | rfl | rfl | rfl | rfl | rfl | rfl := k_lt9 hb1 <;> decide) (by obtain rfl | rfl | rfl | rfl | rfl | rfl | rfl | rfl | rfl := k_lt9 hb1 <;> rfl) rfl (ci := 1) rfl rfl rfl rfl rfl hl.1 (Nat.le_of_ble_eq_true rfl) dX0_stepBack_22 ⟨Nat.zero_le _, Nat.zero_le _⟩ [(h_t, .inr (0, [.ref h_t_desks, .int vJ17_0, .int t_last])), (h_p0, .inr (1, [.int (x2.2.1), .int (x2.2.2.1), .ref h_p0_powers, .int (x2.2.2.2.1), .long (x2.2.2.2.2)])), (h_t_desks, .inl (cD, 9, .inr (.inr (.inr (.inr (fun i => some (d_t_desks i))))))), ((d_t_desks 0), .inr (1, [.int (t_desks_genus 0), .int (t_desks_size 0), .ref (q_t_desks 0), .int (t_desks_limit 0), .long (t_desks_tree 0)])), ((q_t_desks 0), .inl (cI, 8, .inl (a_t_desks 0))), ((d_t_desks 1), .inr (1, [.int (t_desks_genus 1), .int (t_desks_size 1), .ref (q_t_desks 1), .int (t_desks_limit 1), .long (t_desks_tree 1)])), ((q_t_desks 1), .inl (cI, 8, .inl (a_t_desks 1))), ((d_t_desks 2), .inr (1, [.int (t_desks_genus 2), .int (t_desks_size 2), .ref (q_t_desks 2), .int (t_desks_limit 2), .long (t_desks_tree 2)])), ((q_t_desks 2), .inl (cI, 8, .inl (a_t_desks 2))), ((d_t_desks 3), .inr (1, [.int (t_desks_genus 3), .int (t_desks_size 3), .ref (q_t_desks 3), .int (t_desks_limit 3), .long (t_desks_tree 3)])), ((q_t_desks 3), .inl (cI, 8, .inl (a_t_desks 3))), ((d_t_desks 4), .inr (1, [.int (t_desks_genus 4), .int (t_desks_size 4), .ref (q_t_desks 4), .int (t_desks_limit 4), .long (t_desks_tree 4)])), ((q_t_desks 4), .inl (cI, 8, .inl (a_t_desks 4))), ((d_t_desks 5), .inr (1, [.int (t_desks_genus 5), .int (t_desks_size 5), .ref (q_t_desks 5), .int (t_desks_limit 5), .long (t_desks_tree 5)])), ((q_t_desks 5), .inl (cI, 8, .inl (a_t_desks 5))), ((d_t_desks 6), .inr (1, [.int (t_desks_genus 6), .int (t_desks_size 6), .ref (q_t_desks 6), .int (t_desks_limit 6), .long (t_desks_tree 6)])), ((q_t_desks 6), .inl (cI, 8, .inl (a_t_desks 6))), ((d_t_desks 7), .inr (1, [.int (t_desks_genus 7), .int (t_desks_size 7), .ref (q_t_desks 7), .int (t_desks_limit 7), .long (t_desks_tree 7)])), ((q_t_desks 7), .inl (cI, 8, .inl (a_t_desks 7))), ((d_t_desks 8), .inr (1, [.int (t_desks_genus 8), .int (t_desks_size 8), .ref (q_t_desks 8), .int (t_desks_limit 8), .long (t_desks_tree 8)])), ((q_t_desks 8), .inl (cI, 8, .inl (a_t_desks 8))), (h_p0_powers, .inl (cI, 8, .inl (x2.1)))] (by obtain rfl | rfl | rfl | rfl | rfl | rfl | rfl | rfl | rfl := k_lt9 hb1 <;> rfl) (by obtain rfl | rfl | rfl | rfl | rfl | rfl | rfl | rfl | rfl := k_lt9 hb1 <;> rfl) (fun hp2 H locs hP hD hS => ?_)
  have h9 := Option.some.inj h
  have e9 : (x2.1) = w0 := congrArg (fun z9 => z9.1) h9
  rw [← e9]
  have e9 : vJ17_0 = w1 := congrArg (fun z9 => z9.2.1) h9
  rw [← e9]
  have e9 : (x2.2.1) = w2 := congrArg (fun z9 => z9.2.2.1) h9
  rw [← e9]
  have e9 : (x2.2.2.1) = w3 := congrArg (fun z9 => z9.2.2.2.1) h9
  rw [← e9]
  have e9 : (x2.2.2.2.1) = w4 := congrArg (fun z9 => z9.2.2.2.2.1) h9
  rw [← e9]
  have e9 : (x2.2.2.2.2) = w5 := congrArg (fun z9 => z9.2.2.2.2.2) h9
  rw [← e9]
  exact k_vret hx hb hr hlocks hP hS dX0_stepBack_25
set_option maxHeartbeats 40000000 in
set_option maxRecDepth 100000 in
theorem c_X0_stepBack (l : Launch) (G : va_G) (cI cJ cD cH : ClassId) (sz : Nat) (h_t : Nat) (h_p0 : Nat) (h_t_desks : Nat) (h_p0_powers : Nat) (d_t_desks : Nat → Nat) (q_t_desks : Nat → Nat) (a_t_desks : Nat → Nat → Int32) (t_desks_genus : Nat → Int32) (t_desks_size : Nat → Int32) (t_desks_limit : Nat → Int32) (t_desks_tree : Nat → Int64) (t_now : Int32) (t_last : Int32) (p0_genus : Int32) (p0_size : Int32) (p0_limit : Int32) (p0_tree : Int64) (a_p0_powers : Nat → Int32) (w0 : Nat → Int32) (w1 : Int32) (w2 : Int32) (w3 : Int32) (w4 : Int32) (w5 : Int64) (hF : F_X0_stepBack a_t_desks t_desks_genus t_desks_size t_desks_limit t_desks_tree t_now a_p0_powers = some (w0, w1, w2, w3, w4, w5)) : Met l yX0_stepBack wsX0_stepBack ({ frames := 1, cells := 0, slots := 0, locals := 22 }) (k_pre G (k_T cI cJ cD cH) [(h_t, .inr (0, [.ref h_t_desks, .int t_now, .int t_last])), (h_p0, .inr (1, [.int p0_genus, .int p0_size, .ref h_p0_powers, .int p0_limit, .long p0_tree])), (h_t_desks, .inl (cD, 9, .inr (.inr (.inr (.inr (fun i => some (d_t_desks i))))))), ((d_t_desks 0), .inr (1, [.int (t_desks_genus 0), .int (t_desks_size 0), .ref (q_t_desks 0), .int (t_desks_limit 0), .long (t_desks_tree 0)])), ((q_t_desks 0), .inl (cI, 8, .inl (a_t_desks 0))), ((d_t_desks 1), .inr (1, [.int (t_desks_genus 1), .int (t_desks_size 1), .ref (q_t_desks 1), .int (t_desks_limit 1), .long (t_desks_tree 1)])), ((q_t_desks 1), .inl (cI, 8, .inl (a_t_desks 1))), ((d_t_desks 2), .inr (1, [.int (t_desks_genus 2), .int (t_desks_size 2), .ref (q_t_desks 2), .int (t_desks_limit 2), .long (t_desks_tree 2)])), ((q_t_desks 2), .inl (cI, 8, .inl (a_t_desks 2))), ((d_t_desks 3), .inr (1, [.int (t_desks_genus 3), .int (t_desks_size 3), .ref (q_t_desks 3), .int (t_desks_limit 3), .long (t_desks_tree 3)])), ((q_t_desks 3), .inl (cI, 8, .inl (a_t_desks 3))), ((d_t_desks 4), .inr (1, [.int (t_desks_genus 4), .int (t_desks_size 4), .ref (q_t_desks 4), .int (t_desks_limit 4), .long (t_desks_tree 4)])), ((q_t_desks 4), .inl (cI, 8, .inl (a_t_desks 4))), ((d_t_desks 5), .inr (1, [.int (t_desks_genus 5), .int (t_desks_size 5), .ref (q_t_desks 5), .int (t_desks_limit 5), .long (t_desks_tree 5)])), ((q_t_desks 5), .inl (cI, 8, .inl (a_t_desks 5))), ((d_t_desks 6), .inr (1, [.int (t_desks_genus 6), .int (t_desks_size 6), .ref (q_t_desks 6), .int (t_desks_limit 6), .long (t_desks_tree 6)])), ((q_t_desks 6), .inl (cI, 8, .inl (a_t_desks 6))), ((d_t_desks 7), .inr (1, [.int (t_desks_genus 7), .int (t_desks_size 7), .ref (q_t_desks 7), .int (t_desks_limit 7), .long (t_desks_tree 7)])), ((q_t_desks 7), .inl (cI, 8, .inl (a_t_desks 7))), ((d_t_desks 8), .inr (1, [.int (t_desks_genus 8), .int (t_desks_size 8), .ref (q_t_desks 8), .int (t_desks_limit 8), .long (t_desks_tree 8)])), ((q_t_desks 8), .inl (cI, 8, .inl (a_t_desks 8))), (h_p0_powers, .inl (cI, 8, .inl a_p0_powers))] sz [.ref h_t, .ref h_p0]) (va_Qv (fun (_ : Unit) => True) (fun _ t => va_P G vwCl [(h_t, .inr (0, [.ref h_t_desks, .int w1, .int t_last])), (h_p0, .inr (1, [.int w2, .int w3, .ref h_p0_powers, .int w4, .long w5])), (h_t_desks, .inl (cD, 9, .inr (.inr (.inr (.inr (fun i => some (d_t_desks i))))))), ((d_t_desks 0), .inr (1, [.int (t_desks_genus 0), .int (t_desks_size 0), .ref (q_t_desks 0), .int (t_desks_limit 0), .long (t_desks_tree 0)])), ((q_t_desks 0), .inl (cI, 8, .inl (a_t_desks 0))), ((d_t_desks 1), .inr (1, [.int (t_desks_genus 1), .int (t_desks_size 1), .ref (q_t_desks 1), .int (t_desks_limit 1), .long (t_desks_tree 1)])), ((q_t_desks 1), .inl (cI, 8, .inl (a_t_desks 1))), ((d_t_desks 2), .inr (1, [.int (t_desks_genus 2), .int (t_desks_size 2), .ref (q_t_desks 2), .int (t_desks_limit 2), .long (t_desks_tree 2)])), ((q_t_desks 2), .inl (cI, 8, .inl (a_t_desks 2))), ((d_t_desks 3), .inr (1, [.int (t_desks_genus 3), .int (t_desks_size 3), .ref (q_t_desks 3), .int (t_desks_limit 3), .long (t_desks_tree 3)])), ((q_t_desks 3), .inl (cI, 8, .inl (a_t_desks 3))), ((d_t_desks 4), .inr (1, [.int (t_desks_genus 4), .int (t_desks_size 4), .ref (q_t_desks 4), .int (t_desks_limit 4), .long (t_desks_tree 4)])), ((q_t_desks 4), .inl (cI, 8, .inl (a_t_desks 4))), ((d_t_desks 5), .inr (1, [.int (t_desks_genus 5), .int (t_desks_size 5), .ref (q_t_desks 5), .int (t_desks_limit 5), .long (t_desks_tree 5)])), ((q_t_desks 5), .inl (cI, 8, .inl (a_t_desks 5))), ((d_t_desks 6), .inr (1, [.int (t_desks_genus 6), .int (t_desks_size 6), .ref (q_t_desks 6), .int (t_desks_limit 6), .long (t_desks_tree 6)])), ((q_t_desks 6), .inl (cI, 8, .inl (a_t_desks 6))), ((d_t_desks 7), .inr (1, [.int (t_desks_genus 7), .int (t_desks_size 7), .ref (q_t_desks 7), .int (t_desks_limit 7), .long (t_desks_tree 7)])), ((q_t_desks 7), .inl (cI, 8, .inl (a_t_desks 7))), ((d_t_desks 8), .inr (1, [.int (t_desks_genus 8), .int (t_desks_size 8), .ref (q_t_desks 8), .int (t_desks_limit 8), .long (t_desks_tree 8)])), ((q_t_desks 8), .inl (cI, 8, .inl (a_t_desks 8))), (h_p0_powers, .inl (cI, 8, .inl w0))] t.heap) (va_A [(h_t, .inr (0, [.ref h_t_desks, .int t_now, .int t_last])), (h_p0, .inr (1, [.int p0_genus, .int p0_size, .ref h_p0_powers, .int p0_limit, .long p0_tree])), (h_t_desks, .inl (cD, 9, .inr (.inr (.inr (.inr (fun i => some (d_t_desks i))))))), ((d_t_desks 0), .inr (1, [.int (t_desks_genus 0), .int (t_desks_size 0), .ref (q_t_desks 0), .int (t_desks_limit 0), .long (t_desks_tree 0)])), ((q_t_desks 0), .inl (cI, 8, .inl (a_t_desks 0))), ((d_t_desks 1), .inr (1, [.int (t_desks_genus 1), .int (t_desks_size 1), .ref (q_t_desks 1), .int (t_desks_limit 1), .long (t_desks_tree 1)])), ((q_t_desks 1), .inl (cI, 8, .inl (a_t_desks 1))), ((d_t_desks 2), .inr (1, [.int (t_desks_genus 2), .int (t_desks_size 2), .ref (q_t_desks 2), .int (t_desks_limit 2), .long (t_desks_tree 2)])), ((q_t_desks 2), .inl (cI, 8, .inl (a_t_desks 2))), ((d_t_desks 3), .inr (1, [.int (t_desks_genus 3), .int (t_desks_size 3), .ref (q_t_desks 3), .int (t_desks_limit 3), .long (t_desks_tree 3)])), ((q_t_desks 3), .inl (cI, 8, .inl (a_t_desks 3))), ((d_t_desks 4), .inr (1, [.int (t_desks_genus 4), .int (t_desks_size 4), .ref (q_t_desks 4), .int (t_desks_limit 4), .long (t_desks_tree 4)])), ((q_t_desks 4), .inl (cI, 8, .inl (a_t_desks 4))), ((d_t_desks 5), .inr (1, [.int (t_desks_genus 5), .int (t_desks_size 5), .ref (q_t_desks 5), .int (t_desks_limit 5), .long (t_desks_tree 5)])), ((q_t_desks 5), .inl (cI, 8, .inl (a_t_desks 5))), ((d_t_desks 6), .inr (1, [.int (t_desks_genus 6), .int (t_desks_size 6), .ref (q_t_desks 6), .int (t_desks_limit 6), .long (t_desks_tree 6)])), ((q_t_desks 6), .inl (cI, 8, .inl (a_t_desks 6))), ((d_t_desks 7), .inr (1, [.int (t_desks_genus 7), .int (t_desks_size 7), .ref (q_t_desks 7), .int (t_desks_limit 7), .long (t_desks_tree 7)])), ((q_t_desks 7), .inl (cI, 8, .inl (a_t_desks 7))), ((d_t_desks 8), .inr (1, [.int (t_desks_genus 8), .int (t_desks_size 8), .ref (q_t_desks 8), .int (t_desks_limit 8), .long (t_desks_tree 8)])), ((q_t_desks 8), .inl (cI, 8, .inl (a_t_desks 8))), (h_p0_powers, .inl (cI, 8, .inl a_p0_powers))] sz)) 0 0 (va_A [(h_t, .inr (0, [.ref h_t_desks, .int t_now, .int t_last])), (h_p0, .inr (1, [.int p0_genus, .int p0_size, .ref h_p0_powers, .int p0_limit, .long p0_tree])), (h_t_desks, .inl (cD, 9, .inr (.inr (.inr (.inr (fun i => some (d_t_desks i))))))), ((d_t_desks 0), .inr (1, [.int (t_desks_genus 0), .int (t_desks_size 0), .ref (q_t_desks 0), .int (t_desks_limit 0), .long (t_desks_tree 0)])), ((q_t_desks 0), .inl (cI, 8, .inl (a_t_desks 0))), ((d_t_desks 1), .inr (1, [.int (t_desks_genus 1), .int (t_desks_size 1), .ref (q_t_desks 1), .int (t_desks_limit 1), .long (t_desks_tree 1)])), ((q_t_desks 1), .inl (cI, 8, .inl (a_t_desks 1))), ((d_t_desks 2), .inr (1, [.int (t_desks_genus 2), .int (t_desks_size 2), .ref (q_t_desks 2), .int (t_desks_limit 2), .long (t_desks_tree 2)])), ((q_t_desks 2), .inl (cI, 8, .inl (a_t_desks 2))), ((d_t_desks 3), .inr (1, [.int (t_desks_genus 3), .int (t_desks_size 3), .ref (q_t_desks 3), .int (t_desks_limit 3), .long (t_desks_tree 3)])), ((q_t_desks 3), .inl (cI, 8, .inl (a_t_desks 3))), ((d_t_desks 4), .inr (1, [.int (t_desks_genus 4), .int (t_desks_size 4), .ref (q_t_desks 4), .int (t_desks_limit 4), .long (t_desks_tree 4)])), ((q_t_desks 4), .inl (cI, 8, .inl (a_t_desks 4))), ((d_t_desks 5), .inr (1, [.int (t_desks_genus 5), .int (t_desks_size 5), .ref (q_t_desks 5), .int (t_desks_limit 5), .long (t_desks_tree 5)])), ((q_t_desks 5), .inl (cI, 8, .inl (a_t_desks 5))), ((d_t_desks 6), .inr (1, [.int (t_desks_genus 6), .int (t_desks_size 6), .ref (q_t_desks 6), .int (t_desks_limit 6), .long (t_desks_tree 6)])), ((q_t_desks 6), .inl (cI, 8, .inl (a_t_desks 6))), ((d_t_desks 7), .inr (1, [.int (t_desks_genus 7), .int (t_desks_size 7), .ref (q_t_desks 7), .int (t_desks_limit 7), .long (t_desks_tree 7)])), ((q_t_desks 7), .inl (cI, 8, .inl (a_t_desks 7))), ((d_t_desks 8), .inr (1, [.int (t_desks_genus 8), .int (t_desks_size 8), .ref (q_t_desks 8), .int (t_desks_limit 8), .long (t_desks_tree 8)])), ((q_t_desks 8), .inl (cI, 8, .inl (a_t_desks 8))), (h_p0_powers, .inl (cI, 8, .inl a_p0_powers))] sz) := by
  refine Met.ofW (cc := cX0_stepBack) (maxL := 2) (ret := none) (by decide) rfl ?_
  intro p e s m args below meth c s₁ B hml hv
  obtain ⟨rfl, hsz, hP, hK, hD0⟩ := hv
  have hx := B.exec
  have hb := B.bytes
  have hr := B.returns
  have hts := atoms_spec (ws := wsX0_stepBack) B.pre
  have hta : ∀ w ∈ wA, w.before ([.ref h_t, .ref h_p0] : List Value).toArray s = true := hta_of hts
  have hown : s.vm.findClass RX0 = some m.cls := findClass_of_methodNamed B.named
  have hlocks := B.notSynchronized
  subst hsz
  have hD := hD0.self (sz := s.heap.size)
  generalize hAe : va_A [(h_t, .inr (0, [.ref h_t_desks, .int t_now, .int t_last])), (h_p0, .inr (1, [.int p0_genus, .int p0_size, .ref h_p0_powers, .int p0_limit, .long p0_tree])), (h_t_desks, .inl (cD, 9, .inr (.inr (.inr (.inr (fun i => some (d_t_desks i))))))), ((d_t_desks 0), .inr (1, [.int (t_desks_genus 0), .int (t_desks_size 0), .ref (q_t_desks 0), .int (t_desks_limit 0), .long (t_desks_tree 0)])), ((q_t_desks 0), .inl (cI, 8, .inl (a_t_desks 0))), ((d_t_desks 1), .inr (1, [.int (t_desks_genus 1), .int (t_desks_size 1), .ref (q_t_desks 1), .int (t_desks_limit 1), .long (t_desks_tree 1)])), ((q_t_desks 1), .inl (cI, 8, .inl (a_t_desks 1))), ((d_t_desks 2), .inr (1, [.int (t_desks_genus 2), .int (t_desks_size 2), .ref (q_t_desks 2), .int (t_desks_limit 2), .long (t_desks_tree 2)])), ((q_t_desks 2), .inl (cI, 8, .inl (a_t_desks 2))), ((d_t_desks 3), .inr (1, [.int (t_desks_genus 3), .int (t_desks_size 3), .ref (q_t_desks 3), .int (t_desks_limit 3), .long (t_desks_tree 3)])), ((q_t_desks 3), .inl (cI, 8, .inl (a_t_desks 3))), ((d_t_desks 4), .inr (1, [.int (t_desks_genus 4), .int (t_desks_size 4), .ref (q_t_desks 4), .int (t_desks_limit 4), .long (t_desks_tree 4)])), ((q_t_desks 4), .inl (cI, 8, .inl (a_t_desks 4))), ((d_t_desks 5), .inr (1, [.int (t_desks_genus 5), .int (t_desks_size 5), .ref (q_t_desks 5), .int (t_desks_limit 5), .long (t_desks_tree 5)])), ((q_t_desks 5), .inl (cI, 8, .inl (a_t_desks 5))), ((d_t_desks 6), .inr (1, [.int (t_desks_genus 6), .int (t_desks_size 6), .ref (q_t_desks 6), .int (t_desks_limit 6), .long (t_desks_tree 6)])), ((q_t_desks 6), .inl (cI, 8, .inl (a_t_desks 6))), ((d_t_desks 7), .inr (1, [.int (t_desks_genus 7), .int (t_desks_size 7), .ref (q_t_desks 7), .int (t_desks_limit 7), .long (t_desks_tree 7)])), ((q_t_desks 7), .inl (cI, 8, .inl (a_t_desks 7))), ((d_t_desks 8), .inr (1, [.int (t_desks_genus 8), .int (t_desks_size 8), .ref (q_t_desks 8), .int (t_desks_limit 8), .long (t_desks_tree 8)])), ((q_t_desks 8), .inl (cI, 8, .inl (a_t_desks 8))), (h_p0_powers, .inl (cI, 8, .inl a_p0_powers))] s.heap.size = A at hD ⊢
  have hA : ∀ q : Nat, s.heap.size ≤ q → A q := fun q h => by rw [← hAe]; exact Or.inr h
  have hS : va_S A s.heap s.heap [] := va_S.rf
  have hl := lv_entry ([.ref h_t, .ref h_p0]) (n := 2) (Nat.le_of_ble_eq_true rfl)
  rw [lg_entry_eq]
  generalize (lg_sl ([.ref h_t, .ref h_p0]) ++ List.replicate (2 - (lg_sl ([.ref h_t, .ref h_p0])).length) Slot.unset).toArray = ls at hl ⊢
  have hl : lv_has ls 2 [(0, .ref h_t), (1, .ref h_p0)] := hl
  have hinX0 : ∀ w ∈ wsX00, w ∈ wsX0_stepBack := hin_of in_X0
  have h := hF
  unfold F_X0_stepBack at h
  refine lv_aload_n hx hb dX0_stepBack_0 rfl (lv_at hl 0 rfl) ?_
  refine va_get (D := G) (ci := 0) (v := .int t_now) (C := RX0) (T := TX0) (N := 3) hx hb hts hinX0 hown hK hP 0 rfl rfl 1 (by decide) (hta _ mw_16) (fun _ h9 => h9) rfl dX0_stepBack_1 ?_
  refine lv_if_le (tgt := 17) hx hb dX0_stepBack_4 (by decide) (fun c3 => ?_) (fun c3 => ?_)
  · have h := it_p h c3
    exact tJ_X0_stepBack_17 hx hb hr hml hts hown hlocks hK hA t_now _ _ _ hP hD hS (lv_sub hl [0, 1] rfl) h
  have h := it_n h c3
  refine lv_aload_n hx hb dX0_stepBack_7 rfl (lv_at hl 0 rfl) ?_
  refine lv_dup hx hb dX0_stepBack_8 rfl ?_
  refine va_get (D := G) (ci := 0) (v := .int t_now) (C := RX0) (T := TX0) (N := 3) hx hb hts hinX0 hown hK hP 0 rfl rfl 1 (by decide) (hta _ mw_16) (fun _ h9 => h9) rfl dX0_stepBack_9 ?_
  refine lv_iconst (v := (1 : Int32)) hx hb dX0_stepBack_12 (by decide) ?_
  refine lv_isub hx hb dX0_stepBack_13 ?_
  refine va_put (D := G) (ci := 0) (v := .int (t_now - (1 : Int32))) (ty := .int) (C := RX0) (T := TX0) (N := 3) hx hb hts hinX0 tyX0 tyX0_ok nmX0 hown hK hP hD hS 0 rfl rfl 1 (by decide) (hta _ mw_16) (fun _ h9 => h9) rfl (by decide +kernel) rfl rfl (Nat.le_of_ble_eq_true rfl) dX0_stepBack_14 (fun H locs hP hD hS => ?_)
  have hP : va_P G vwCl [(h_t, .inr (0, [.ref h_t_desks, .int (t_now - (1 : Int32)), .int t_last])), (h_p0, .inr (1, [.int p0_genus, .int p0_size, .ref h_p0_powers, .int p0_limit, .long p0_tree])), (h_t_desks, .inl (cD, 9, .inr (.inr (.inr (.inr (fun i => some (d_t_desks i))))))), ((d_t_desks 0), .inr (1, [.int (t_desks_genus 0), .int (t_desks_size 0), .ref (q_t_desks 0), .int (t_desks_limit 0), .long (t_desks_tree 0)])), ((q_t_desks 0), .inl (cI, 8, .inl (a_t_desks 0))), ((d_t_desks 1), .inr (1, [.int (t_desks_genus 1), .int (t_desks_size 1), .ref (q_t_desks 1), .int (t_desks_limit 1), .long (t_desks_tree 1)])), ((q_t_desks 1), .inl (cI, 8, .inl (a_t_desks 1))), ((d_t_desks 2), .inr (1, [.int (t_desks_genus 2), .int (t_desks_size 2), .ref (q_t_desks 2), .int (t_desks_limit 2), .long (t_desks_tree 2)])), ((q_t_desks 2), .inl (cI, 8, .inl (a_t_desks 2))), ((d_t_desks 3), .inr (1, [.int (t_desks_genus 3), .int (t_desks_size 3), .ref (q_t_desks 3), .int (t_desks_limit 3), .long (t_desks_tree 3)])), ((q_t_desks 3), .inl (cI, 8, .inl (a_t_desks 3))), ((d_t_desks 4), .inr (1, [.int (t_desks_genus 4), .int (t_desks_size 4), .ref (q_t_desks 4), .int (t_desks_limit 4), .long (t_desks_tree 4)])), ((q_t_desks 4), .inl (cI, 8, .inl (a_t_desks 4))), ((d_t_desks 5), .inr (1, [.int (t_desks_genus 5), .int (t_desks_size 5), .ref (q_t_desks 5), .int (t_desks_limit 5), .long (t_desks_tree 5)])), ((q_t_desks 5), .inl (cI, 8, .inl (a_t_desks 5))), ((d_t_desks 6), .inr (1, [.int (t_desks_genus 6), .int (t_desks_size 6), .ref (q_t_desks 6), .int (t_desks_limit 6), .long (t_desks_tree 6)])), ((q_t_desks 6), .inl (cI, 8, .inl (a_t_desks 6))), ((d_t_desks 7), .inr (1, [.int (t_desks_genus 7), .int (t_desks_size 7), .ref (q_t_desks 7), .int (t_desks_limit 7), .long (t_desks_tree 7)])), ((q_t_desks 7), .inl (cI, 8, .inl (a_t_desks 7))), ((d_t_desks 8), .inr (1, [.int (t_desks_genus 8), .int (t_desks_size 8), .ref (q_t_desks 8), .int (t_desks_limit 8), .long (t_desks_tree 8)])), ((q_t_desks 8), .inl (cI, 8, .inl (a_t_desks 8))), (h_p0_powers, .inl (cI, 8, .inl a_p0_powers))] H := hP
  have hD : va_D A [(h_t, .inr (0, [.ref h_t_desks, .int (t_now - (1 : Int32)), .int t_last])), (h_p0, .inr (1, [.int p0_genus, .int p0_size, .ref h_p0_powers, .int p0_limit, .long p0_tree])), (h_t_desks, .inl (cD, 9, .inr (.inr (.inr (.inr (fun i => some (d_t_desks i))))))), ((d_t_desks 0), .inr (1, [.int (t_desks_genus 0), .int (t_desks_size 0), .ref (q_t_desks 0), .int (t_desks_limit 0), .long (t_desks_tree 0)])), ((q_t_desks 0), .inl (cI, 8, .inl (a_t_desks 0))), ((d_t_desks 1), .inr (1, [.int (t_desks_genus 1), .int (t_desks_size 1), .ref (q_t_desks 1), .int (t_desks_limit 1), .long (t_desks_tree 1)])), ((q_t_desks 1), .inl (cI, 8, .inl (a_t_desks 1))), ((d_t_desks 2), .inr (1, [.int (t_desks_genus 2), .int (t_desks_size 2), .ref (q_t_desks 2), .int (t_desks_limit 2), .long (t_desks_tree 2)])), ((q_t_desks 2), .inl (cI, 8, .inl (a_t_desks 2))), ((d_t_desks 3), .inr (1, [.int (t_desks_genus 3), .int (t_desks_size 3), .ref (q_t_desks 3), .int (t_desks_limit 3), .long (t_desks_tree 3)])), ((q_t_desks 3), .inl (cI, 8, .inl (a_t_desks 3))), ((d_t_desks 4), .inr (1, [.int (t_desks_genus 4), .int (t_desks_size 4), .ref (q_t_desks 4), .int (t_desks_limit 4), .long (t_desks_tree 4)])), ((q_t_desks 4), .inl (cI, 8, .inl (a_t_desks 4))), ((d_t_desks 5), .inr (1, [.int (t_desks_genus 5), .int (t_desks_size 5), .ref (q_t_desks 5), .int (t_desks_limit 5), .long (t_desks_tree 5)])), ((q_t_desks 5), .inl (cI, 8, .inl (a_t_desks 5))), ((d_t_desks 6), .inr (1, [.int (t_desks_genus 6), .int (t_desks_size 6), .ref (q_t_desks 6), .int (t_desks_limit 6), .long (t_desks_tree 6)])), ((q_t_desks 6), .inl (cI, 8, .inl (a_t_desks 6))), ((d_t_desks 7), .inr (1, [.int (t_desks_genus 7), .int (t_desks_size 7), .ref (q_t_desks 7), .int (t_desks_limit 7), .long (t_desks_tree 7)])), ((q_t_desks 7), .inl (cI, 8, .inl (a_t_desks 7))), ((d_t_desks 8), .inr (1, [.int (t_desks_genus 8), .int (t_desks_size 8), .ref (q_t_desks 8), .int (t_desks_limit 8), .long (t_desks_tree 8)])), ((q_t_desks 8), .inl (cI, 8, .inl (a_t_desks 8))), (h_p0_powers, .inl (cI, 8, .inl a_p0_powers))] := hD
  exact tJ_X0_stepBack_17 hx hb hr hml hts hown hlocks hK hA (t_now - (1 : Int32)) _ _ _ hP hD hS (lv_sub hl [0, 1] rfl) h

/-! X0_stepOn -/
set_option maxHeartbeats 40000000 in
set_option maxRecDepth 100000 in
theorem tJ_X0_stepOn_21 {l : Launch} {G : va_G} {cI cJ cD cH : ClassId} {h_t : Nat} {h_p0 : Nat} {h_t_desks : Nat} {h_p0_powers : Nat} {d_t_desks : Nat → Nat} {q_t_desks : Nat → Nat} {a_t_desks : Nat → Nat → Int32} {t_desks_genus : Nat → Int32} {t_desks_size : Nat → Int32} {t_desks_limit : Nat → Int32} {t_desks_tree : Nat → Int64} {t_last : Int32} {p0_genus : Int32} {p0_size : Int32} {p0_limit : Int32} {p0_tree : Int64} {a_p0_powers : Nat → Int32} {w0 : Nat → Int32} {w1 : Int32} {w2 : Int32} {w3 : Int32} {w4 : Int32} {w5 : Int64} {p : Program} {e : Env} {s : State} {m : MethodId} {below : List Frame} {meth : Method} {c : Code} {A : Nat → Prop} (hx : p.tables.exec = Jvm.exec) (hb : c.code = cX0_stepOn) (hr : meth.sig.returnType = none) (hml : c.maxLocals = 2) (hts : ∀ w ∈ wsX0_stepOn, w.before ([.ref h_t, .ref h_p0] : List Value).toArray s = true) (hown : s.vm.findClass RX0 = some m.cls) (hlocks : meth.locks = false) (hK : va_K G vwCl (k_T cI cJ cD cH) s) (hA : ∀ q : Nat, s.heap.size ≤ q → A q) : ∀  (vJ21_0 : Int32) (H : Heap) (locs : List Loc) (ls : Array Slot), va_P G vwCl [(h_t, .inr (0, [.ref h_t_desks, .int vJ21_0, .int t_last])), (h_p0, .inr (1, [.int p0_genus, .int p0_size, .ref h_p0_powers, .int p0_limit, .long p0_tree])), (h_t_desks, .inl (cD, 9, .inr (.inr (.inr (.inr (fun i => some (d_t_desks i))))))), ((d_t_desks 0), .inr (1, [.int (t_desks_genus 0), .int (t_desks_size 0), .ref (q_t_desks 0), .int (t_desks_limit 0), .long (t_desks_tree 0)])), ((q_t_desks 0), .inl (cI, 8, .inl (a_t_desks 0))), ((d_t_desks 1), .inr (1, [.int (t_desks_genus 1), .int (t_desks_size 1), .ref (q_t_desks 1), .int (t_desks_limit 1), .long (t_desks_tree 1)])), ((q_t_desks 1), .inl (cI, 8, .inl (a_t_desks 1))), ((d_t_desks 2), .inr (1, [.int (t_desks_genus 2), .int (t_desks_size 2), .ref (q_t_desks 2), .int (t_desks_limit 2), .long (t_desks_tree 2)])), ((q_t_desks 2), .inl (cI, 8, .inl (a_t_desks 2))), ((d_t_desks 3), .inr (1, [.int (t_desks_genus 3), .int (t_desks_size 3), .ref (q_t_desks 3), .int (t_desks_limit 3), .long (t_desks_tree 3)])), ((q_t_desks 3), .inl (cI, 8, .inl (a_t_desks 3))), ((d_t_desks 4), .inr (1, [.int (t_desks_genus 4), .int (t_desks_size 4), .ref (q_t_desks 4), .int (t_desks_limit 4), .long (t_desks_tree 4)])), ((q_t_desks 4), .inl (cI, 8, .inl (a_t_desks 4))), ((d_t_desks 5), .inr (1, [.int (t_desks_genus 5), .int (t_desks_size 5), .ref (q_t_desks 5), .int (t_desks_limit 5), .long (t_desks_tree 5)])), ((q_t_desks 5), .inl (cI, 8, .inl (a_t_desks 5))), ((d_t_desks 6), .inr (1, [.int (t_desks_genus 6), .int (t_desks_size 6), .ref (q_t_desks 6), .int (t_desks_limit 6), .long (t_desks_tree 6)])), ((q_t_desks 6), .inl (cI, 8, .inl (a_t_desks 6))), ((d_t_desks 7), .inr (1, [.int (t_desks_genus 7), .int (t_desks_size 7), .ref (q_t_desks 7), .int (t_desks_limit 7), .long (t_desks_tree 7)])), ((q_t_desks 7), .inl (cI, 8, .inl (a_t_desks 7))), ((d_t_desks 8), .inr (1, [.int (t_desks_genus 8), .int (t_desks_size 8), .ref (q_t_desks 8), .int (t_desks_limit 8), .long (t_desks_tree 8)])), ((q_t_desks 8), .inl (cI, 8, .inl (a_t_desks 8))), (h_p0_powers, .inl (cI, 8, .inl a_p0_powers))] H → va_D A [(h_t, .inr (0, [.ref h_t_desks, .int vJ21_0, .int t_last])), (h_p0, .inr (1, [.int p0_genus, .int p0_size, .ref h_p0_powers, .int p0_limit, .long p0_tree])), (h_t_desks, .inl (cD, 9, .inr (.inr (.inr (.inr (fun i => some (d_t_desks i))))))), ((d_t_desks 0), .inr (1, [.int (t_desks_genus 0), .int (t_desks_size 0), .ref (q_t_desks 0), .int (t_desks_limit 0), .long (t_desks_tree 0)])), ((q_t_desks 0), .inl (cI, 8, .inl (a_t_desks 0))), ((d_t_desks 1), .inr (1, [.int (t_desks_genus 1), .int (t_desks_size 1), .ref (q_t_desks 1), .int (t_desks_limit 1), .long (t_desks_tree 1)])), ((q_t_desks 1), .inl (cI, 8, .inl (a_t_desks 1))), ((d_t_desks 2), .inr (1, [.int (t_desks_genus 2), .int (t_desks_size 2), .ref (q_t_desks 2), .int (t_desks_limit 2), .long (t_desks_tree 2)])), ((q_t_desks 2), .inl (cI, 8, .inl (a_t_desks 2))), ((d_t_desks 3), .inr (1, [.int (t_desks_genus 3), .int (t_desks_size 3), .ref (q_t_desks 3), .int (t_desks_limit 3), .long (t_desks_tree 3)])), ((q_t_desks 3), .inl (cI, 8, .inl (a_t_desks 3))), ((d_t_desks 4), .inr (1, [.int (t_desks_genus 4), .int (t_desks_size 4), .ref (q_t_desks 4), .int (t_desks_limit 4), .long (t_desks_tree 4)])), ((q_t_desks 4), .inl (cI, 8, .inl (a_t_desks 4))), ((d_t_desks 5), .inr (1, [.int (t_desks_genus 5), .int (t_desks_size 5), .ref (q_t_desks 5), .int (t_desks_limit 5), .long (t_desks_tree 5)])), ((q_t_desks 5), .inl (cI, 8, .inl (a_t_desks 5))), ((d_t_desks 6), .inr (1, [.int (t_desks_genus 6), .int (t_desks_size 6), .ref (q_t_desks 6), .int (t_desks_limit 6), .long (t_desks_tree 6)])), ((q_t_desks 6), .inl (cI, 8, .inl (a_t_desks 6))), ((d_t_desks 7), .inr (1, [.int (t_desks_genus 7), .int (t_desks_size 7), .ref (q_t_desks 7), .int (t_desks_limit 7), .long (t_desks_tree 7)])), ((q_t_desks 7), .inl (cI, 8, .inl (a_t_desks 7))), ((d_t_desks 8), .inr (1, [.int (t_desks_genus 8), .int (t_desks_size 8), .ref (q_t_desks 8), .int (t_desks_limit 8), .long (t_desks_tree 8)])), ((q_t_desks 8), .inl (cI, 8, .inl (a_t_desks 8))), (h_p0_powers, .inl (cI, 8, .inl a_p0_powers))] → va_S A s.heap H locs → lv_has ls 2 [(0, .ref h_t), (1, .ref h_p0)] → J_X0_stepOn_21 a_t_desks t_desks_genus t_desks_size t_desks_limit t_desks_tree a_p0_powers vJ21_0 = some (w0, w1, w2, w3, w4, w5) → W p l e (headSpec wsX0_stepOn ({ frames := 1, cells := 0, slots := 0, locals := 22 })).room s m ([.ref h_t, .ref h_p0] : List Value).toArray below meth c H locs 0 0 (MQ below (va_Qv (fun (_ : Unit) => True) (fun _ t => va_P G vwCl [(h_t, .inr (0, [.ref h_t_desks, .int w1, .int t_last])), (h_p0, .inr (1, [.int w2, .int w3, .ref h_p0_powers, .int w4, .long w5])), (h_t_desks, .inl (cD, 9, .inr (.inr (.inr (.inr (fun i => some (d_t_desks i))))))), ((d_t_desks 0), .inr (1, [.int (t_desks_genus 0), .int (t_desks_size 0), .ref (q_t_desks 0), .int (t_desks_limit 0), .long (t_desks_tree 0)])), ((q_t_desks 0), .inl (cI, 8, .inl (a_t_desks 0))), ((d_t_desks 1), .inr (1, [.int (t_desks_genus 1), .int (t_desks_size 1), .ref (q_t_desks 1), .int (t_desks_limit 1), .long (t_desks_tree 1)])), ((q_t_desks 1), .inl (cI, 8, .inl (a_t_desks 1))), ((d_t_desks 2), .inr (1, [.int (t_desks_genus 2), .int (t_desks_size 2), .ref (q_t_desks 2), .int (t_desks_limit 2), .long (t_desks_tree 2)])), ((q_t_desks 2), .inl (cI, 8, .inl (a_t_desks 2))), ((d_t_desks 3), .inr (1, [.int (t_desks_genus 3), .int (t_desks_size 3), .ref (q_t_desks 3), .int (t_desks_limit 3), .long (t_desks_tree 3)])), ((q_t_desks 3), .inl (cI, 8, .inl (a_t_desks 3))), ((d_t_desks 4), .inr (1, [.int (t_desks_genus 4), .int (t_desks_size 4), .ref (q_t_desks 4), .int (t_desks_limit 4), .long (t_desks_tree 4)])), ((q_t_desks 4), .inl (cI, 8, .inl (a_t_desks 4))), ((d_t_desks 5), .inr (1, [.int (t_desks_genus 5), .int (t_desks_size 5), .ref (q_t_desks 5), .int (t_desks_limit 5), .long (t_desks_tree 5)])), ((q_t_desks 5), .inl (cI, 8, .inl (a_t_desks 5))), ((d_t_desks 6), .inr (1, [.int (t_desks_genus 6), .int (t_desks_size 6), .ref (q_t_desks 6), .int (t_desks_limit 6), .long (t_desks_tree 6)])), ((q_t_desks 6), .inl (cI, 8, .inl (a_t_desks 6))), ((d_t_desks 7), .inr (1, [.int (t_desks_genus 7), .int (t_desks_size 7), .ref (q_t_desks 7), .int (t_desks_limit 7), .long (t_desks_tree 7)])), ((q_t_desks 7), .inl (cI, 8, .inl (a_t_desks 7))), ((d_t_desks 8), .inr (1, [.int (t_desks_genus 8), .int (t_desks_size 8), .ref (q_t_desks 8), .int (t_desks_limit 8), .long (t_desks_tree 8)])), ((q_t_desks 8), .inl (cI, 8, .inl (a_t_desks 8))), (h_p0_powers, .inl (cI, 8, .inl w0))] t.heap) A) ([.ref h_t, .ref h_p0] : List Value).toArray s 0 0 A) (F0 m 21 ls []) := by
  have hta : ∀ w ∈ wA, w.before ([.ref h_t, .ref h_p0] : List Value).toArray s = true := hta_of hts
  have hinX0 : ∀ w ∈ wsX00, w ∈ wsX0_stepOn := hin_of in_X0
  intro vJ21_0 H locs ls hP hD hS hl h
  unfold J_X0_stepOn_21 at h
  refine lv_aload_n hx hb dX0_stepOn_21 rfl (lv_at hl 1 rfl) ?_
  refine lv_aload_n hx hb dX0_stepOn_22 rfl (lv_at hl 0 rfl) ?_
  obtain ⟨x1, hx1, h⟩ := bd_e h
  try dsimp only at h
  have hb1 := k_lt_X0_present hx1
  refine k_VqU (n := 0) (As := []) (rest := [.ref h_p0]) hx hb hml hown hts (c_X0_present l G cI cJ cD cH H.size h_t h_t_desks d_t_desks q_t_desks a_t_desks t_desks_genus t_desks_size t_desks_limit t_desks_tree vJ21_0 t_last x1 hx1) gX0_stepOn_X0_present rfl rfl rfl (by decide +kernel) ⟨by first | exact Nat.le_of_ble_eq_true rfl | (simp only [headSpec]; omega), by first | exact Nat.le_of_ble_eq_true rfl | (simp only [headSpec]; omega)⟩ hK hP hD hS hA [0, 2, 3, 4, 5, 6, 7, 8, 9, 10, 11, 12, 13, 14, 15, 16, 17, 18, 19, 20] (by decide) rfl (ci := 0) rfl rfl rfl rfl rfl hl.1 (Nat.le_of_ble_eq_true rfl) dX0_stepOn_23 ⟨Nat.zero_le _, Nat.zero_le _⟩ (fun hp1 H locs hP hS => ?_)
  refine W.eq (g2 := F0 m 26 ls [.ref (d_t_desks x1), .ref h_p0]) rfl ?_
  obtain ⟨x2, hx2, h⟩ := bd_e h
  try dsimp only at h
  refine k_VvR (n := 1) (As := [.ref (d_t_desks x1)]) (rest := []) hx hb hml hown hts (c_X1_copyFrom l G cI cJ cD cH H.size h_p0 (d_t_desks x1) h_p0_powers (q_t_desks x1) p0_genus p0_size p0_limit p0_tree (t_desks_genus x1) (t_desks_size x1) (t_desks_limit x1) (t_desks_tree x1) a_p0_powers (a_t_desks x1) (x2.1) (x2.2.1) (x2.2.2.1) (x2.2.2.2.1) (x2.2.2.2.2) hx2) gX0_stepOn_X1_copyFrom rfl rfl rfl (by decide +kernel) ⟨by first | exact Nat.le_of_ble_eq_true rfl | (simp only [headSpec]; omega), by first | exact Nat.le_of_ble_eq_true rfl | (simp only [headSpec]; omega)⟩ hK hP hD hS hA [1, (3 + 2 * x1), 21, (4 + 2 * x1)] (by obtain rfl | rfl | rfl | rfl | rfl | rfl | rfl | rfl | rfl := k_lt9 hb1 <;> decide) (by obtain rfl | rfl | rfl | rfl | rfl | rfl | rfl | rfl | rfl := k_lt9 hb1 <;> rfl) rfl (ci := 1) rfl rfl rfl rfl rfl hl.1 (Nat.le_of_ble_eq_true rfl) dX0_stepOn_26 ⟨Nat.zero_le _, Nat.zero_le _⟩ [(h_t, .inr (0, [.ref h_t_desks, .int vJ21_0, .int t_last])), (h_p0, .inr (1, [.int (x2.2.1), .int (x2.2.2.1), .ref h_p0_powers, .int (x2.2.2.2.1), .long (x2.2.2.2.2)])), (h_t_desks, .inl (cD, 9, .inr (.inr (.inr (.inr (fun i => some (d_t_desks i))))))), ((d_t_desks 0), .inr (1, [.int (t_desks_genus 0), .int (t_desks_size 0), .ref (q_t_desks 0), .int (t_desks_limit 0), .long (t_desks_tree 0)])), ((q_t_desks 0), .inl (cI, 8, .inl (a_t_desks 0))), ((d_t_desks 1), .inr (1, [.int (t_desks_genus 1), .int (t_desks_size 1), .ref (q_t_desks 1), .int (t_desks_limit 1), .long (t_desks_tree 1)])), ((q_t_desks 1), .inl (cI, 8, .inl (a_t_desks 1))), ((d_t_desks 2), .inr (1, [.int (t_desks_genus 2), .int (t_desks_size 2), .ref (q_t_desks 2), .int (t_desks_limit 2), .long (t_desks_tree 2)])), ((q_t_desks 2), .inl (cI, 8, .inl (a_t_desks 2))), ((d_t_desks 3), .inr (1, [.int (t_desks_genus 3), .int (t_desks_size 3), .ref (q_t_desks 3), .int (t_desks_limit 3), .long (t_desks_tree 3)])), ((q_t_desks 3), .inl (cI, 8, .inl (a_t_desks 3))), ((d_t_desks 4), .inr (1, [.int (t_desks_genus 4), .int (t_desks_size 4), .ref (q_t_desks 4), .int (t_desks_limit 4), .long (t_desks_tree 4)])), ((q_t_desks 4), .inl (cI, 8, .inl (a_t_desks 4))), ((d_t_desks 5), .inr (1, [.int (t_desks_genus 5), .int (t_desks_size 5), .ref (q_t_desks 5), .int (t_desks_limit 5), .long (t_desks_tree 5)])), ((q_t_desks 5), .inl (cI, 8, .inl (a_t_desks 5))), ((d_t_desks 6), .inr (1, [.int (t_desks_genus 6), .int (t_desks_size 6), .ref (q_t_desks 6), .int (t_desks_limit 6), .long (t_desks_tree 6)])), ((q_t_desks 6), .inl (cI, 8, .inl (a_t_desks 6))), ((d_t_desks 7), .inr (1, [.int (t_desks_genus 7), .int (t_desks_size 7), .ref (q_t_desks 7), .int (t_desks_limit 7), .long (t_desks_tree 7)])), ((q_t_desks 7), .inl (cI, 8, .inl (a_t_desks 7))), ((d_t_desks 8), .inr (1, [.int (t_desks_genus 8), .int (t_desks_size 8), .ref (q_t_desks 8), .int (t_desks_limit 8), .long (t_desks_tree 8)])), ((q_t_desks 8), .inl (cI, 8, .inl (a_t_desks 8))), (h_p0_powers, .inl (cI, 8, .inl (x2.1)))] (by obtain rfl | rfl | rfl | rfl | rfl | rfl | rfl | rfl | rfl := k_lt9 hb1 <;> rfl) (by obtain rfl | rfl | rfl | rfl | rfl | rfl | rfl | rfl | rfl := k_lt9 hb1 <;> rfl) (fun hp2 H locs hP hD hS => ?_)
  have h9 := Option.some.inj h
  have e9 : (x2.1) = w0 := congrArg (fun z9 => z9.1) h9
  rw [← e9]
  have e9 : vJ21_0 = w1 := congrArg (fun z9 => z9.2.1) h9
  rw [← e9]
  have e9 : (x2.2.1) = w2 := congrArg (fun z9 => z9.2.2.1) h9
  rw [← e9]
  have e9 : (x2.2.2.1) = w3 := congrArg (fun z9 => z9.2.2.2.1) h9
  rw [← e9]
  have e9 : (x2.2.2.2.1) = w4 := congrArg (fun z9 => z9.2.2.2.2.1) h9
  rw [← e9]
  have e9 : (x2.2.2.2.2) = w5 := congrArg (fun z9 => z9.2.2.2.2.2) h9
  rw [← e9]
  exact k_vret hx hb hr hlocks hP hS dX0_stepOn_29
set_option maxHeartbeats 40000000 in
set_option maxRecDepth 100000 in
theorem c_X0_stepOn (l : Launch) (G : va_G) (cI cJ cD cH : ClassId) (sz : Nat) (h_t : Nat) (h_p0 : Nat) (h_t_desks : Nat) (h_p0_powers : Nat) (d_t_desks : Nat → Nat) (q_t_desks : Nat → Nat) (a_t_desks : Nat → Nat → Int32) (t_desks_genus : Nat → Int32) (t_desks_size : Nat → Int32) (t_desks_limit : Nat → Int32) (t_desks_tree : Nat → Int64) (t_now : Int32) (t_last : Int32) (p0_genus : Int32) (p0_size : Int32) (p0_limit : Int32) (p0_tree : Int64) (a_p0_powers : Nat → Int32) (w0 : Nat → Int32) (w1 : Int32) (w2 : Int32) (w3 : Int32) (w4 : Int32) (w5 : Int64) (hF : F_X0_stepOn a_t_desks t_desks_genus t_desks_size t_desks_limit t_desks_tree t_now t_last a_p0_powers = some (w0, w1, w2, w3, w4, w5)) : Met l yX0_stepOn wsX0_stepOn ({ frames := 1, cells := 0, slots := 0, locals := 22 }) (k_pre G (k_T cI cJ cD cH) [(h_t, .inr (0, [.ref h_t_desks, .int t_now, .int t_last])), (h_p0, .inr (1, [.int p0_genus, .int p0_size, .ref h_p0_powers, .int p0_limit, .long p0_tree])), (h_t_desks, .inl (cD, 9, .inr (.inr (.inr (.inr (fun i => some (d_t_desks i))))))), ((d_t_desks 0), .inr (1, [.int (t_desks_genus 0), .int (t_desks_size 0), .ref (q_t_desks 0), .int (t_desks_limit 0), .long (t_desks_tree 0)])), ((q_t_desks 0), .inl (cI, 8, .inl (a_t_desks 0))), ((d_t_desks 1), .inr (1, [.int (t_desks_genus 1), .int (t_desks_size 1), .ref (q_t_desks 1), .int (t_desks_limit 1), .long (t_desks_tree 1)])), ((q_t_desks 1), .inl (cI, 8, .inl (a_t_desks 1))), ((d_t_desks 2), .inr (1, [.int (t_desks_genus 2), .int (t_desks_size 2), .ref (q_t_desks 2), .int (t_desks_limit 2), .long (t_desks_tree 2)])), ((q_t_desks 2), .inl (cI, 8, .inl (a_t_desks 2))), ((d_t_desks 3), .inr (1, [.int (t_desks_genus 3), .int (t_desks_size 3), .ref (q_t_desks 3), .int (t_desks_limit 3), .long (t_desks_tree 3)])), ((q_t_desks 3), .inl (cI, 8, .inl (a_t_desks 3))), ((d_t_desks 4), .inr (1, [.int (t_desks_genus 4), .int (t_desks_size 4), .ref (q_t_desks 4), .int (t_desks_limit 4), .long (t_desks_tree 4)])), ((q_t_desks 4), .inl (cI, 8, .inl (a_t_desks 4))), ((d_t_desks 5), .inr (1, [.int (t_desks_genus 5), .int (t_desks_size 5), .ref (q_t_desks 5), .int (t_desks_limit 5), .long (t_desks_tree 5)])), ((q_t_desks 5), .inl (cI, 8, .inl (a_t_desks 5))), ((d_t_desks 6), .inr (1, [.int (t_desks_genus 6), .int (t_desks_size 6), .ref (q_t_desks 6), .int (t_desks_limit 6), .long (t_desks_tree 6)])), ((q_t_desks 6), .inl (cI, 8, .inl (a_t_desks 6))), ((d_t_desks 7), .inr (1, [.int (t_desks_genus 7), .int (t_desks_size 7), .ref (q_t_desks 7), .int (t_desks_limit 7), .long (t_desks_tree 7)])), ((q_t_desks 7), .inl (cI, 8, .inl (a_t_desks 7))), ((d_t_desks 8), .inr (1, [.int (t_desks_genus 8), .int (t_desks_size 8), .ref (q_t_desks 8), .int (t_desks_limit 8), .long (t_desks_tree 8)])), ((q_t_desks 8), .inl (cI, 8, .inl (a_t_desks 8))), (h_p0_powers, .inl (cI, 8, .inl a_p0_powers))] sz [.ref h_t, .ref h_p0]) (va_Qv (fun (_ : Unit) => True) (fun _ t => va_P G vwCl [(h_t, .inr (0, [.ref h_t_desks, .int w1, .int t_last])), (h_p0, .inr (1, [.int w2, .int w3, .ref h_p0_powers, .int w4, .long w5])), (h_t_desks, .inl (cD, 9, .inr (.inr (.inr (.inr (fun i => some (d_t_desks i))))))), ((d_t_desks 0), .inr (1, [.int (t_desks_genus 0), .int (t_desks_size 0), .ref (q_t_desks 0), .int (t_desks_limit 0), .long (t_desks_tree 0)])), ((q_t_desks 0), .inl (cI, 8, .inl (a_t_desks 0))), ((d_t_desks 1), .inr (1, [.int (t_desks_genus 1), .int (t_desks_size 1), .ref (q_t_desks 1), .int (t_desks_limit 1), .long (t_desks_tree 1)])), ((q_t_desks 1), .inl (cI, 8, .inl (a_t_desks 1))), ((d_t_desks 2), .inr (1, [.int (t_desks_genus 2), .int (t_desks_size 2), .ref (q_t_desks 2), .int (t_desks_limit 2), .long (t_desks_tree 2)])), ((q_t_desks 2), .inl (cI, 8, .inl (a_t_desks 2))), ((d_t_desks 3), .inr (1, [.int (t_desks_genus 3), .int (t_desks_size 3), .ref (q_t_desks 3), .int (t_desks_limit 3), .long (t_desks_tree 3)])), ((q_t_desks 3), .inl (cI, 8, .inl (a_t_desks 3))), ((d_t_desks 4), .inr (1, [.int (t_desks_genus 4), .int (t_desks_size 4), .ref (q_t_desks 4), .int (t_desks_limit 4), .long (t_desks_tree 4)])), ((q_t_desks 4), .inl (cI, 8, .inl (a_t_desks 4))), ((d_t_desks 5), .inr (1, [.int (t_desks_genus 5), .int (t_desks_size 5), .ref (q_t_desks 5), .int (t_desks_limit 5), .long (t_desks_tree 5)])), ((q_t_desks 5), .inl (cI, 8, .inl (a_t_desks 5))), ((d_t_desks 6), .inr (1, [.int (t_desks_genus 6), .int (t_desks_size 6), .ref (q_t_desks 6), .int (t_desks_limit 6), .long (t_desks_tree 6)])), ((q_t_desks 6), .inl (cI, 8, .inl (a_t_desks 6))), ((d_t_desks 7), .inr (1, [.int (t_desks_genus 7), .int (t_desks_size 7), .ref (q_t_desks 7), .int (t_desks_limit 7), .long (t_desks_tree 7)])), ((q_t_desks 7), .inl (cI, 8, .inl (a_t_desks 7))), ((d_t_desks 8), .inr (1, [.int (t_desks_genus 8), .int (t_desks_size 8), .ref (q_t_desks 8), .int (t_desks_limit 8), .long (t_desks_tree 8)])), ((q_t_desks 8), .inl (cI, 8, .inl (a_t_desks 8))), (h_p0_powers, .inl (cI, 8, .inl w0))] t.heap) (va_A [(h_t, .inr (0, [.ref h_t_desks, .int t_now, .int t_last])), (h_p0, .inr (1, [.int p0_genus, .int p0_size, .ref h_p0_powers, .int p0_limit, .long p0_tree])), (h_t_desks, .inl (cD, 9, .inr (.inr (.inr (.inr (fun i => some (d_t_desks i))))))), ((d_t_desks 0), .inr (1, [.int (t_desks_genus 0), .int (t_desks_size 0), .ref (q_t_desks 0), .int (t_desks_limit 0), .long (t_desks_tree 0)])), ((q_t_desks 0), .inl (cI, 8, .inl (a_t_desks 0))), ((d_t_desks 1), .inr (1, [.int (t_desks_genus 1), .int (t_desks_size 1), .ref (q_t_desks 1), .int (t_desks_limit 1), .long (t_desks_tree 1)])), ((q_t_desks 1), .inl (cI, 8, .inl (a_t_desks 1))), ((d_t_desks 2), .inr (1, [.int (t_desks_genus 2), .int (t_desks_size 2), .ref (q_t_desks 2), .int (t_desks_limit 2), .long (t_desks_tree 2)])), ((q_t_desks 2), .inl (cI, 8, .inl (a_t_desks 2))), ((d_t_desks 3), .inr (1, [.int (t_desks_genus 3), .int (t_desks_size 3), .ref (q_t_desks 3), .int (t_desks_limit 3), .long (t_desks_tree 3)])), ((q_t_desks 3), .inl (cI, 8, .inl (a_t_desks 3))), ((d_t_desks 4), .inr (1, [.int (t_desks_genus 4), .int (t_desks_size 4), .ref (q_t_desks 4), .int (t_desks_limit 4), .long (t_desks_tree 4)])), ((q_t_desks 4), .inl (cI, 8, .inl (a_t_desks 4))), ((d_t_desks 5), .inr (1, [.int (t_desks_genus 5), .int (t_desks_size 5), .ref (q_t_desks 5), .int (t_desks_limit 5), .long (t_desks_tree 5)])), ((q_t_desks 5), .inl (cI, 8, .inl (a_t_desks 5))), ((d_t_desks 6), .inr (1, [.int (t_desks_genus 6), .int (t_desks_size 6), .ref (q_t_desks 6), .int (t_desks_limit 6), .long (t_desks_tree 6)])), ((q_t_desks 6), .inl (cI, 8, .inl (a_t_desks 6))), ((d_t_desks 7), .inr (1, [.int (t_desks_genus 7), .int (t_desks_size 7), .ref (q_t_desks 7), .int (t_desks_limit 7), .long (t_desks_tree 7)])), ((q_t_desks 7), .inl (cI, 8, .inl (a_t_desks 7))), ((d_t_desks 8), .inr (1, [.int (t_desks_genus 8), .int (t_desks_size 8), .ref (q_t_desks 8), .int (t_desks_limit 8), .long (t_desks_tree 8)])), ((q_t_desks 8), .inl (cI, 8, .inl (a_t_desks 8))), (h_p0_powers, .inl (cI, 8, .inl a_p0_powers))] sz)) 0 0 (va_A [(h_t, .inr (0, [.ref h_t_desks, .int t_now, .int t_last])), (h_p0, .inr (1, [.int p0_genus, .int p0_size, .ref h_p0_powers, .int p0_limit, .long p0_tree])), (h_t_desks, .inl (cD, 9, .inr (.inr (.inr (.inr (fun i => some (d_t_desks i))))))), ((d_t_desks 0), .inr (1, [.int (t_desks_genus 0), .int (t_desks_size 0), .ref (q_t_desks 0), .int (t_desks_limit 0), .long (t_desks_tree 0)])), ((q_t_desks 0), .inl (cI, 8, .inl (a_t_desks 0))), ((d_t_desks 1), .inr (1, [.int (t_desks_genus 1), .int (t_desks_size 1), .ref (q_t_desks 1), .int (t_desks_limit 1), .long (t_desks_tree 1)])), ((q_t_desks 1), .inl (cI, 8, .inl (a_t_desks 1))), ((d_t_desks 2), .inr (1, [.int (t_desks_genus 2), .int (t_desks_size 2), .ref (q_t_desks 2), .int (t_desks_limit 2), .long (t_desks_tree 2)])), ((q_t_desks 2), .inl (cI, 8, .inl (a_t_desks 2))), ((d_t_desks 3), .inr (1, [.int (t_desks_genus 3), .int (t_desks_size 3), .ref (q_t_desks 3), .int (t_desks_limit 3), .long (t_desks_tree 3)])), ((q_t_desks 3), .inl (cI, 8, .inl (a_t_desks 3))), ((d_t_desks 4), .inr (1, [.int (t_desks_genus 4), .int (t_desks_size 4), .ref (q_t_desks 4), .int (t_desks_limit 4), .long (t_desks_tree 4)])), ((q_t_desks 4), .inl (cI, 8, .inl (a_t_desks 4))), ((d_t_desks 5), .inr (1, [.int (t_desks_genus 5), .int (t_desks_size 5), .ref (q_t_desks 5), .int (t_desks_limit 5), .long (t_desks_tree 5)])), ((q_t_desks 5), .inl (cI, 8, .inl (a_t_desks 5))), ((d_t_desks 6), .inr (1, [.int (t_desks_genus 6), .int (t_desks_size 6), .ref (q_t_desks 6), .int (t_desks_limit 6), .long (t_desks_tree 6)])), ((q_t_desks 6), .inl (cI, 8, .inl (a_t_desks 6))), ((d_t_desks 7), .inr (1, [.int (t_desks_genus 7), .int (t_desks_size 7), .ref (q_t_desks 7), .int (t_desks_limit 7), .long (t_desks_tree 7)])), ((q_t_desks 7), .inl (cI, 8, .inl (a_t_desks 7))), ((d_t_desks 8), .inr (1, [.int (t_desks_genus 8), .int (t_desks_size 8), .ref (q_t_desks 8), .int (t_desks_limit 8), .long (t_desks_tree 8)])), ((q_t_desks 8), .inl (cI, 8, .inl (a_t_desks 8))), (h_p0_powers, .inl (cI, 8, .inl a_p0_powers))] sz) := by
  refine Met.ofW (cc := cX0_stepOn) (maxL := 2) (ret := none) (by decide) rfl ?_
  intro p e s m args below meth c s₁ B hml hv
  obtain ⟨rfl, hsz, hP, hK, hD0⟩ := hv
  have hx := B.exec
  have hb := B.bytes
  have hr := B.returns
  have hts := atoms_spec (ws := wsX0_stepOn) B.pre
  have hta : ∀ w ∈ wA, w.before ([.ref h_t, .ref h_p0] : List Value).toArray s = true := hta_of hts
  have hown : s.vm.findClass RX0 = some m.cls := findClass_of_methodNamed B.named
  have hlocks := B.notSynchronized
  subst hsz
  have hD := hD0.self (sz := s.heap.size)
  generalize hAe : va_A [(h_t, .inr (0, [.ref h_t_desks, .int t_now, .int t_last])), (h_p0, .inr (1, [.int p0_genus, .int p0_size, .ref h_p0_powers, .int p0_limit, .long p0_tree])), (h_t_desks, .inl (cD, 9, .inr (.inr (.inr (.inr (fun i => some (d_t_desks i))))))), ((d_t_desks 0), .inr (1, [.int (t_desks_genus 0), .int (t_desks_size 0), .ref (q_t_desks 0), .int (t_desks_limit 0), .long (t_desks_tree 0)])), ((q_t_desks 0), .inl (cI, 8, .inl (a_t_desks 0))), ((d_t_desks 1), .inr (1, [.int (t_desks_genus 1), .int (t_desks_size 1), .ref (q_t_desks 1), .int (t_desks_limit 1), .long (t_desks_tree 1)])), ((q_t_desks 1), .inl (cI, 8, .inl (a_t_desks 1))), ((d_t_desks 2), .inr (1, [.int (t_desks_genus 2), .int (t_desks_size 2), .ref (q_t_desks 2), .int (t_desks_limit 2), .long (t_desks_tree 2)])), ((q_t_desks 2), .inl (cI, 8, .inl (a_t_desks 2))), ((d_t_desks 3), .inr (1, [.int (t_desks_genus 3), .int (t_desks_size 3), .ref (q_t_desks 3), .int (t_desks_limit 3), .long (t_desks_tree 3)])), ((q_t_desks 3), .inl (cI, 8, .inl (a_t_desks 3))), ((d_t_desks 4), .inr (1, [.int (t_desks_genus 4), .int (t_desks_size 4), .ref (q_t_desks 4), .int (t_desks_limit 4), .long (t_desks_tree 4)])), ((q_t_desks 4), .inl (cI, 8, .inl (a_t_desks 4))), ((d_t_desks 5), .inr (1, [.int (t_desks_genus 5), .int (t_desks_size 5), .ref (q_t_desks 5), .int (t_desks_limit 5), .long (t_desks_tree 5)])), ((q_t_desks 5), .inl (cI, 8, .inl (a_t_desks 5))), ((d_t_desks 6), .inr (1, [.int (t_desks_genus 6), .int (t_desks_size 6), .ref (q_t_desks 6), .int (t_desks_limit 6), .long (t_desks_tree 6)])), ((q_t_desks 6), .inl (cI, 8, .inl (a_t_desks 6))), ((d_t_desks 7), .inr (1, [.int (t_desks_genus 7), .int (t_desks_size 7), .ref (q_t_desks 7), .int (t_desks_limit 7), .long (t_desks_tree 7)])), ((q_t_desks 7), .inl (cI, 8, .inl (a_t_desks 7))), ((d_t_desks 8), .inr (1, [.int (t_desks_genus 8), .int (t_desks_size 8), .ref (q_t_desks 8), .int (t_desks_limit 8), .long (t_desks_tree 8)])), ((q_t_desks 8), .inl (cI, 8, .inl (a_t_desks 8))), (h_p0_powers, .inl (cI, 8, .inl a_p0_powers))] s.heap.size = A at hD ⊢
  have hA : ∀ q : Nat, s.heap.size ≤ q → A q := fun q h => by rw [← hAe]; exact Or.inr h
  have hS : va_S A s.heap s.heap [] := va_S.rf
  have hl := lv_entry ([.ref h_t, .ref h_p0]) (n := 2) (Nat.le_of_ble_eq_true rfl)
  rw [lg_entry_eq]
  generalize (lg_sl ([.ref h_t, .ref h_p0]) ++ List.replicate (2 - (lg_sl ([.ref h_t, .ref h_p0])).length) Slot.unset).toArray = ls at hl ⊢
  have hl : lv_has ls 2 [(0, .ref h_t), (1, .ref h_p0)] := hl
  have hinX0 : ∀ w ∈ wsX00, w ∈ wsX0_stepOn := hin_of in_X0
  have h := hF
  unfold F_X0_stepOn at h
  refine lv_aload_n hx hb dX0_stepOn_0 rfl (lv_at hl 0 rfl) ?_
  refine va_get (D := G) (ci := 0) (v := .int t_now) (C := RX0) (T := TX0) (N := 3) hx hb hts hinX0 hown hK hP 0 rfl rfl 1 (by decide) (hta _ mw_16) (fun _ h9 => h9) rfl dX0_stepOn_1 ?_
  refine lv_aload_n hx hb dX0_stepOn_4 rfl (lv_at hl 0 rfl) ?_
  refine va_get (D := G) (ci := 0) (v := .int t_last) (C := RX0) (T := TX0) (N := 3) hx hb hts hinX0 hown hK hP 0 rfl rfl 2 (by decide) (hta _ mw_18) (fun _ h9 => h9) rfl dX0_stepOn_5 ?_
  refine lv_icmp_ge (tgt := 21) hx hb dX0_stepOn_8 (by decide) (fun c3 => ?_) (fun c3 => ?_)
  · have h := it_p h c3
    exact tJ_X0_stepOn_21 hx hb hr hml hts hown hlocks hK hA t_now _ _ _ hP hD hS (lv_sub hl [0, 1] rfl) h
  have h := it_n h c3
  refine lv_aload_n hx hb dX0_stepOn_11 rfl (lv_at hl 0 rfl) ?_
  refine lv_dup hx hb dX0_stepOn_12 rfl ?_
  refine va_get (D := G) (ci := 0) (v := .int t_now) (C := RX0) (T := TX0) (N := 3) hx hb hts hinX0 hown hK hP 0 rfl rfl 1 (by decide) (hta _ mw_16) (fun _ h9 => h9) rfl dX0_stepOn_13 ?_
  refine lv_iconst (v := (1 : Int32)) hx hb dX0_stepOn_16 (by decide) ?_
  refine lv_iadd hx hb dX0_stepOn_17 ?_
  refine va_put (D := G) (ci := 0) (v := .int (t_now + (1 : Int32))) (ty := .int) (C := RX0) (T := TX0) (N := 3) hx hb hts hinX0 tyX0 tyX0_ok nmX0 hown hK hP hD hS 0 rfl rfl 1 (by decide) (hta _ mw_16) (fun _ h9 => h9) rfl (by decide +kernel) rfl rfl (Nat.le_of_ble_eq_true rfl) dX0_stepOn_18 (fun H locs hP hD hS => ?_)
  have hP : va_P G vwCl [(h_t, .inr (0, [.ref h_t_desks, .int (t_now + (1 : Int32)), .int t_last])), (h_p0, .inr (1, [.int p0_genus, .int p0_size, .ref h_p0_powers, .int p0_limit, .long p0_tree])), (h_t_desks, .inl (cD, 9, .inr (.inr (.inr (.inr (fun i => some (d_t_desks i))))))), ((d_t_desks 0), .inr (1, [.int (t_desks_genus 0), .int (t_desks_size 0), .ref (q_t_desks 0), .int (t_desks_limit 0), .long (t_desks_tree 0)])), ((q_t_desks 0), .inl (cI, 8, .inl (a_t_desks 0))), ((d_t_desks 1), .inr (1, [.int (t_desks_genus 1), .int (t_desks_size 1), .ref (q_t_desks 1), .int (t_desks_limit 1), .long (t_desks_tree 1)])), ((q_t_desks 1), .inl (cI, 8, .inl (a_t_desks 1))), ((d_t_desks 2), .inr (1, [.int (t_desks_genus 2), .int (t_desks_size 2), .ref (q_t_desks 2), .int (t_desks_limit 2), .long (t_desks_tree 2)])), ((q_t_desks 2), .inl (cI, 8, .inl (a_t_desks 2))), ((d_t_desks 3), .inr (1, [.int (t_desks_genus 3), .int (t_desks_size 3), .ref (q_t_desks 3), .int (t_desks_limit 3), .long (t_desks_tree 3)])), ((q_t_desks 3), .inl (cI, 8, .inl (a_t_desks 3))), ((d_t_desks 4), .inr (1, [.int (t_desks_genus 4), .int (t_desks_size 4), .ref (q_t_desks 4), .int (t_desks_limit 4), .long (t_desks_tree 4)])), ((q_t_desks 4), .inl (cI, 8, .inl (a_t_desks 4))), ((d_t_desks 5), .inr (1, [.int (t_desks_genus 5), .int (t_desks_size 5), .ref (q_t_desks 5), .int (t_desks_limit 5), .long (t_desks_tree 5)])), ((q_t_desks 5), .inl (cI, 8, .inl (a_t_desks 5))), ((d_t_desks 6), .inr (1, [.int (t_desks_genus 6), .int (t_desks_size 6), .ref (q_t_desks 6), .int (t_desks_limit 6), .long (t_desks_tree 6)])), ((q_t_desks 6), .inl (cI, 8, .inl (a_t_desks 6))), ((d_t_desks 7), .inr (1, [.int (t_desks_genus 7), .int (t_desks_size 7), .ref (q_t_desks 7), .int (t_desks_limit 7), .long (t_desks_tree 7)])), ((q_t_desks 7), .inl (cI, 8, .inl (a_t_desks 7))), ((d_t_desks 8), .inr (1, [.int (t_desks_genus 8), .int (t_desks_size 8), .ref (q_t_desks 8), .int (t_desks_limit 8), .long (t_desks_tree 8)])), ((q_t_desks 8), .inl (cI, 8, .inl (a_t_desks 8))), (h_p0_powers, .inl (cI, 8, .inl a_p0_powers))] H := hP
  have hD : va_D A [(h_t, .inr (0, [.ref h_t_desks, .int (t_now + (1 : Int32)), .int t_last])), (h_p0, .inr (1, [.int p0_genus, .int p0_size, .ref h_p0_powers, .int p0_limit, .long p0_tree])), (h_t_desks, .inl (cD, 9, .inr (.inr (.inr (.inr (fun i => some (d_t_desks i))))))), ((d_t_desks 0), .inr (1, [.int (t_desks_genus 0), .int (t_desks_size 0), .ref (q_t_desks 0), .int (t_desks_limit 0), .long (t_desks_tree 0)])), ((q_t_desks 0), .inl (cI, 8, .inl (a_t_desks 0))), ((d_t_desks 1), .inr (1, [.int (t_desks_genus 1), .int (t_desks_size 1), .ref (q_t_desks 1), .int (t_desks_limit 1), .long (t_desks_tree 1)])), ((q_t_desks 1), .inl (cI, 8, .inl (a_t_desks 1))), ((d_t_desks 2), .inr (1, [.int (t_desks_genus 2), .int (t_desks_size 2), .ref (q_t_desks 2), .int (t_desks_limit 2), .long (t_desks_tree 2)])), ((q_t_desks 2), .inl (cI, 8, .inl (a_t_desks 2))), ((d_t_desks 3), .inr (1, [.int (t_desks_genus 3), .int (t_desks_size 3), .ref (q_t_desks 3), .int (t_desks_limit 3), .long (t_desks_tree 3)])), ((q_t_desks 3), .inl (cI, 8, .inl (a_t_desks 3))), ((d_t_desks 4), .inr (1, [.int (t_desks_genus 4), .int (t_desks_size 4), .ref (q_t_desks 4), .int (t_desks_limit 4), .long (t_desks_tree 4)])), ((q_t_desks 4), .inl (cI, 8, .inl (a_t_desks 4))), ((d_t_desks 5), .inr (1, [.int (t_desks_genus 5), .int (t_desks_size 5), .ref (q_t_desks 5), .int (t_desks_limit 5), .long (t_desks_tree 5)])), ((q_t_desks 5), .inl (cI, 8, .inl (a_t_desks 5))), ((d_t_desks 6), .inr (1, [.int (t_desks_genus 6), .int (t_desks_size 6), .ref (q_t_desks 6), .int (t_desks_limit 6), .long (t_desks_tree 6)])), ((q_t_desks 6), .inl (cI, 8, .inl (a_t_desks 6))), ((d_t_desks 7), .inr (1, [.int (t_desks_genus 7), .int (t_desks_size 7), .ref (q_t_desks 7), .int (t_desks_limit 7), .long (t_desks_tree 7)])), ((q_t_desks 7), .inl (cI, 8, .inl (a_t_desks 7))), ((d_t_desks 8), .inr (1, [.int (t_desks_genus 8), .int (t_desks_size 8), .ref (q_t_desks 8), .int (t_desks_limit 8), .long (t_desks_tree 8)])), ((q_t_desks 8), .inl (cI, 8, .inl (a_t_desks 8))), (h_p0_powers, .inl (cI, 8, .inl a_p0_powers))] := hD
  exact tJ_X0_stepOn_21 hx hb hr hml hts hown hlocks hK hA (t_now + (1 : Int32)) _ _ _ hP hD hS (lv_sub hl [0, 1] rfl) h

/-! X0_startAnew -/
set_option maxHeartbeats 40000000 in
set_option maxRecDepth 100000 in
theorem c_X0_startAnew (l : Launch) (G : va_G) (cI cJ cD cH : ClassId) (sz : Nat) (h_t : Nat) (h_p0 : Nat) (h_t_desks : Nat) (h_p0_powers : Nat) (d_t_desks : Nat → Nat) (q_t_desks : Nat → Nat) (a_t_desks : Nat → Nat → Int32) (t_desks_genus : Nat → Int32) (t_desks_size : Nat → Int32) (t_desks_limit : Nat → Int32) (t_desks_tree : Nat → Int64) (t_now : Int32) (t_last : Int32) (p0_genus : Int32) (p0_size : Int32) (p0_limit : Int32) (p0_tree : Int64) (a_p0_powers : Nat → Int32) (w0 : Int32) (w1 : Int32) (w2 : Nat → Nat → Int32) (w3 : Nat → Int32) (w4 : Nat → Int32) (w5 : Nat → Int32) (w6 : Nat → Int64) (hF : F_X0_startAnew a_t_desks t_desks_genus t_desks_size t_desks_limit t_desks_tree p0_genus p0_size p0_limit p0_tree a_p0_powers = some (w0, w1, w2, w3, w4, w5, w6)) : Met l yX0_startAnew wsX0_startAnew ({ frames := 1, cells := 0, slots := 0, locals := 22 }) (k_pre G (k_T cI cJ cD cH) [(h_t, .inr (0, [.ref h_t_desks, .int t_now, .int t_last])), (h_p0, .inr (1, [.int p0_genus, .int p0_size, .ref h_p0_powers, .int p0_limit, .long p0_tree])), (h_t_desks, .inl (cD, 9, .inr (.inr (.inr (.inr (fun i => some (d_t_desks i))))))), ((d_t_desks 0), .inr (1, [.int (t_desks_genus 0), .int (t_desks_size 0), .ref (q_t_desks 0), .int (t_desks_limit 0), .long (t_desks_tree 0)])), ((q_t_desks 0), .inl (cI, 8, .inl (a_t_desks 0))), ((d_t_desks 1), .inr (1, [.int (t_desks_genus 1), .int (t_desks_size 1), .ref (q_t_desks 1), .int (t_desks_limit 1), .long (t_desks_tree 1)])), ((q_t_desks 1), .inl (cI, 8, .inl (a_t_desks 1))), ((d_t_desks 2), .inr (1, [.int (t_desks_genus 2), .int (t_desks_size 2), .ref (q_t_desks 2), .int (t_desks_limit 2), .long (t_desks_tree 2)])), ((q_t_desks 2), .inl (cI, 8, .inl (a_t_desks 2))), ((d_t_desks 3), .inr (1, [.int (t_desks_genus 3), .int (t_desks_size 3), .ref (q_t_desks 3), .int (t_desks_limit 3), .long (t_desks_tree 3)])), ((q_t_desks 3), .inl (cI, 8, .inl (a_t_desks 3))), ((d_t_desks 4), .inr (1, [.int (t_desks_genus 4), .int (t_desks_size 4), .ref (q_t_desks 4), .int (t_desks_limit 4), .long (t_desks_tree 4)])), ((q_t_desks 4), .inl (cI, 8, .inl (a_t_desks 4))), ((d_t_desks 5), .inr (1, [.int (t_desks_genus 5), .int (t_desks_size 5), .ref (q_t_desks 5), .int (t_desks_limit 5), .long (t_desks_tree 5)])), ((q_t_desks 5), .inl (cI, 8, .inl (a_t_desks 5))), ((d_t_desks 6), .inr (1, [.int (t_desks_genus 6), .int (t_desks_size 6), .ref (q_t_desks 6), .int (t_desks_limit 6), .long (t_desks_tree 6)])), ((q_t_desks 6), .inl (cI, 8, .inl (a_t_desks 6))), ((d_t_desks 7), .inr (1, [.int (t_desks_genus 7), .int (t_desks_size 7), .ref (q_t_desks 7), .int (t_desks_limit 7), .long (t_desks_tree 7)])), ((q_t_desks 7), .inl (cI, 8, .inl (a_t_desks 7))), ((d_t_desks 8), .inr (1, [.int (t_desks_genus 8), .int (t_desks_size 8), .ref (q_t_desks 8), .int (t_desks_limit 8), .long (t_desks_tree 8)])), ((q_t_desks 8), .inl (cI, 8, .inl (a_t_desks 8))), (h_p0_powers, .inl (cI, 8, .inl a_p0_powers))] sz [.ref h_t, .ref h_p0]) (va_Qv (fun (_ : Unit) => True) (fun _ t => va_P G vwCl [(h_t, .inr (0, [.ref h_t_desks, .int w0, .int w1])), (h_p0, .inr (1, [.int p0_genus, .int p0_size, .ref h_p0_powers, .int p0_limit, .long p0_tree])), (h_t_desks, .inl (cD, 9, .inr (.inr (.inr (.inr (fun i => some (d_t_desks i))))))), ((d_t_desks 0), .inr (1, [.int (w3 0), .int (w5 0), .ref (q_t_desks 0), .int (w4 0), .long (w6 0)])), ((q_t_desks 0), .inl (cI, 8, .inl (w2 0))), ((d_t_desks 1), .inr (1, [.int (w3 1), .int (w5 1), .ref (q_t_desks 1), .int (w4 1), .long (w6 1)])), ((q_t_desks 1), .inl (cI, 8, .inl (w2 1))), ((d_t_desks 2), .inr (1, [.int (w3 2), .int (w5 2), .ref (q_t_desks 2), .int (w4 2), .long (w6 2)])), ((q_t_desks 2), .inl (cI, 8, .inl (w2 2))), ((d_t_desks 3), .inr (1, [.int (w3 3), .int (w5 3), .ref (q_t_desks 3), .int (w4 3), .long (w6 3)])), ((q_t_desks 3), .inl (cI, 8, .inl (w2 3))), ((d_t_desks 4), .inr (1, [.int (w3 4), .int (w5 4), .ref (q_t_desks 4), .int (w4 4), .long (w6 4)])), ((q_t_desks 4), .inl (cI, 8, .inl (w2 4))), ((d_t_desks 5), .inr (1, [.int (w3 5), .int (w5 5), .ref (q_t_desks 5), .int (w4 5), .long (w6 5)])), ((q_t_desks 5), .inl (cI, 8, .inl (w2 5))), ((d_t_desks 6), .inr (1, [.int (w3 6), .int (w5 6), .ref (q_t_desks 6), .int (w4 6), .long (w6 6)])), ((q_t_desks 6), .inl (cI, 8, .inl (w2 6))), ((d_t_desks 7), .inr (1, [.int (w3 7), .int (w5 7), .ref (q_t_desks 7), .int (w4 7), .long (w6 7)])), ((q_t_desks 7), .inl (cI, 8, .inl (w2 7))), ((d_t_desks 8), .inr (1, [.int (w3 8), .int (w5 8), .ref (q_t_desks 8), .int (w4 8), .long (w6 8)])), ((q_t_desks 8), .inl (cI, 8, .inl (w2 8))), (h_p0_powers, .inl (cI, 8, .inl a_p0_powers))] t.heap) (va_A [(h_t, .inr (0, [.ref h_t_desks, .int t_now, .int t_last])), (h_p0, .inr (1, [.int p0_genus, .int p0_size, .ref h_p0_powers, .int p0_limit, .long p0_tree])), (h_t_desks, .inl (cD, 9, .inr (.inr (.inr (.inr (fun i => some (d_t_desks i))))))), ((d_t_desks 0), .inr (1, [.int (t_desks_genus 0), .int (t_desks_size 0), .ref (q_t_desks 0), .int (t_desks_limit 0), .long (t_desks_tree 0)])), ((q_t_desks 0), .inl (cI, 8, .inl (a_t_desks 0))), ((d_t_desks 1), .inr (1, [.int (t_desks_genus 1), .int (t_desks_size 1), .ref (q_t_desks 1), .int (t_desks_limit 1), .long (t_desks_tree 1)])), ((q_t_desks 1), .inl (cI, 8, .inl (a_t_desks 1))), ((d_t_desks 2), .inr (1, [.int (t_desks_genus 2), .int (t_desks_size 2), .ref (q_t_desks 2), .int (t_desks_limit 2), .long (t_desks_tree 2)])), ((q_t_desks 2), .inl (cI, 8, .inl (a_t_desks 2))), ((d_t_desks 3), .inr (1, [.int (t_desks_genus 3), .int (t_desks_size 3), .ref (q_t_desks 3), .int (t_desks_limit 3), .long (t_desks_tree 3)])), ((q_t_desks 3), .inl (cI, 8, .inl (a_t_desks 3))), ((d_t_desks 4), .inr (1, [.int (t_desks_genus 4), .int (t_desks_size 4), .ref (q_t_desks 4), .int (t_desks_limit 4), .long (t_desks_tree 4)])), ((q_t_desks 4), .inl (cI, 8, .inl (a_t_desks 4))), ((d_t_desks 5), .inr (1, [.int (t_desks_genus 5), .int (t_desks_size 5), .ref (q_t_desks 5), .int (t_desks_limit 5), .long (t_desks_tree 5)])), ((q_t_desks 5), .inl (cI, 8, .inl (a_t_desks 5))), ((d_t_desks 6), .inr (1, [.int (t_desks_genus 6), .int (t_desks_size 6), .ref (q_t_desks 6), .int (t_desks_limit 6), .long (t_desks_tree 6)])), ((q_t_desks 6), .inl (cI, 8, .inl (a_t_desks 6))), ((d_t_desks 7), .inr (1, [.int (t_desks_genus 7), .int (t_desks_size 7), .ref (q_t_desks 7), .int (t_desks_limit 7), .long (t_desks_tree 7)])), ((q_t_desks 7), .inl (cI, 8, .inl (a_t_desks 7))), ((d_t_desks 8), .inr (1, [.int (t_desks_genus 8), .int (t_desks_size 8), .ref (q_t_desks 8), .int (t_desks_limit 8), .long (t_desks_tree 8)])), ((q_t_desks 8), .inl (cI, 8, .inl (a_t_desks 8))), (h_p0_powers, .inl (cI, 8, .inl a_p0_powers))] sz)) 0 0 (va_A [(h_t, .inr (0, [.ref h_t_desks, .int t_now, .int t_last])), (h_p0, .inr (1, [.int p0_genus, .int p0_size, .ref h_p0_powers, .int p0_limit, .long p0_tree])), (h_t_desks, .inl (cD, 9, .inr (.inr (.inr (.inr (fun i => some (d_t_desks i))))))), ((d_t_desks 0), .inr (1, [.int (t_desks_genus 0), .int (t_desks_size 0), .ref (q_t_desks 0), .int (t_desks_limit 0), .long (t_desks_tree 0)])), ((q_t_desks 0), .inl (cI, 8, .inl (a_t_desks 0))), ((d_t_desks 1), .inr (1, [.int (t_desks_genus 1), .int (t_desks_size 1), .ref (q_t_desks 1), .int (t_desks_limit 1), .long (t_desks_tree 1)])), ((q_t_desks 1), .inl (cI, 8, .inl (a_t_desks 1))), ((d_t_desks 2), .inr (1, [.int (t_desks_genus 2), .int (t_desks_size 2), .ref (q_t_desks 2), .int (t_desks_limit 2), .long (t_desks_tree 2)])), ((q_t_desks 2), .inl (cI, 8, .inl (a_t_desks 2))), ((d_t_desks 3), .inr (1, [.int (t_desks_genus 3), .int (t_desks_size 3), .ref (q_t_desks 3), .int (t_desks_limit 3), .long (t_desks_tree 3)])), ((q_t_desks 3), .inl (cI, 8, .inl (a_t_desks 3))), ((d_t_desks 4), .inr (1, [.int (t_desks_genus 4), .int (t_desks_size 4), .ref (q_t_desks 4), .int (t_desks_limit 4), .long (t_desks_tree 4)])), ((q_t_desks 4), .inl (cI, 8, .inl (a_t_desks 4))), ((d_t_desks 5), .inr (1, [.int (t_desks_genus 5), .int (t_desks_size 5), .ref (q_t_desks 5), .int (t_desks_limit 5), .long (t_desks_tree 5)])), ((q_t_desks 5), .inl (cI, 8, .inl (a_t_desks 5))), ((d_t_desks 6), .inr (1, [.int (t_desks_genus 6), .int (t_desks_size 6), .ref (q_t_desks 6), .int (t_desks_limit 6), .long (t_desks_tree 6)])), ((q_t_desks 6), .inl (cI, 8, .inl (a_t_desks 6))), ((d_t_desks 7), .inr (1, [.int (t_desks_genus 7), .int (t_desks_size 7), .ref (q_t_desks 7), .int (t_desks_limit 7), .long (t_desks_tree 7)])), ((q_t_desks 7), .inl (cI, 8, .inl (a_t_desks 7))), ((d_t_desks 8), .inr (1, [.int (t_desks_genus 8), .int (t_desks_size 8), .ref (q_t_desks 8), .int (t_desks_limit 8), .long (t_desks_tree 8)])), ((q_t_desks 8), .inl (cI, 8, .inl (a_t_desks 8))), (h_p0_powers, .inl (cI, 8, .inl a_p0_powers))] sz) := by
  refine Met.ofW (cc := cX0_startAnew) (maxL := 2) (ret := none) (by decide) rfl ?_
  intro p e s m args below meth c s₁ B hml hv
  obtain ⟨rfl, hsz, hP, hK, hD0⟩ := hv
  have hx := B.exec
  have hb := B.bytes
  have hr := B.returns
  have hts := atoms_spec (ws := wsX0_startAnew) B.pre
  have hta : ∀ w ∈ wA, w.before ([.ref h_t, .ref h_p0] : List Value).toArray s = true := hta_of hts
  have hown : s.vm.findClass RX0 = some m.cls := findClass_of_methodNamed B.named
  have hlocks := B.notSynchronized
  subst hsz
  have hD := hD0.self (sz := s.heap.size)
  generalize hAe : va_A [(h_t, .inr (0, [.ref h_t_desks, .int t_now, .int t_last])), (h_p0, .inr (1, [.int p0_genus, .int p0_size, .ref h_p0_powers, .int p0_limit, .long p0_tree])), (h_t_desks, .inl (cD, 9, .inr (.inr (.inr (.inr (fun i => some (d_t_desks i))))))), ((d_t_desks 0), .inr (1, [.int (t_desks_genus 0), .int (t_desks_size 0), .ref (q_t_desks 0), .int (t_desks_limit 0), .long (t_desks_tree 0)])), ((q_t_desks 0), .inl (cI, 8, .inl (a_t_desks 0))), ((d_t_desks 1), .inr (1, [.int (t_desks_genus 1), .int (t_desks_size 1), .ref (q_t_desks 1), .int (t_desks_limit 1), .long (t_desks_tree 1)])), ((q_t_desks 1), .inl (cI, 8, .inl (a_t_desks 1))), ((d_t_desks 2), .inr (1, [.int (t_desks_genus 2), .int (t_desks_size 2), .ref (q_t_desks 2), .int (t_desks_limit 2), .long (t_desks_tree 2)])), ((q_t_desks 2), .inl (cI, 8, .inl (a_t_desks 2))), ((d_t_desks 3), .inr (1, [.int (t_desks_genus 3), .int (t_desks_size 3), .ref (q_t_desks 3), .int (t_desks_limit 3), .long (t_desks_tree 3)])), ((q_t_desks 3), .inl (cI, 8, .inl (a_t_desks 3))), ((d_t_desks 4), .inr (1, [.int (t_desks_genus 4), .int (t_desks_size 4), .ref (q_t_desks 4), .int (t_desks_limit 4), .long (t_desks_tree 4)])), ((q_t_desks 4), .inl (cI, 8, .inl (a_t_desks 4))), ((d_t_desks 5), .inr (1, [.int (t_desks_genus 5), .int (t_desks_size 5), .ref (q_t_desks 5), .int (t_desks_limit 5), .long (t_desks_tree 5)])), ((q_t_desks 5), .inl (cI, 8, .inl (a_t_desks 5))), ((d_t_desks 6), .inr (1, [.int (t_desks_genus 6), .int (t_desks_size 6), .ref (q_t_desks 6), .int (t_desks_limit 6), .long (t_desks_tree 6)])), ((q_t_desks 6), .inl (cI, 8, .inl (a_t_desks 6))), ((d_t_desks 7), .inr (1, [.int (t_desks_genus 7), .int (t_desks_size 7), .ref (q_t_desks 7), .int (t_desks_limit 7), .long (t_desks_tree 7)])), ((q_t_desks 7), .inl (cI, 8, .inl (a_t_desks 7))), ((d_t_desks 8), .inr (1, [.int (t_desks_genus 8), .int (t_desks_size 8), .ref (q_t_desks 8), .int (t_desks_limit 8), .long (t_desks_tree 8)])), ((q_t_desks 8), .inl (cI, 8, .inl (a_t_desks 8))), (h_p0_powers, .inl (cI, 8, .inl a_p0_powers))] s.heap.size = A at hD ⊢
  have hA : ∀ q : Nat, s.heap.size ≤ q → A q := fun q h => by rw [← hAe]; exact Or.inr h
  have hS : va_S A s.heap s.heap [] := va_S.rf
  have hl := lv_entry ([.ref h_t, .ref h_p0]) (n := 2) (Nat.le_of_ble_eq_true rfl)
  rw [lg_entry_eq]
  generalize (lg_sl ([.ref h_t, .ref h_p0]) ++ List.replicate (2 - (lg_sl ([.ref h_t, .ref h_p0])).length) Slot.unset).toArray = ls at hl ⊢
  have hl : lv_has ls 2 [(0, .ref h_t), (1, .ref h_p0)] := hl
  have hinX0 : ∀ w ∈ wsX00, w ∈ wsX0_startAnew := hin_of in_X0
  have h := hF
  unfold F_X0_startAnew at h
  refine lv_aload_n hx hb dX0_startAnew_0 rfl (lv_at hl 0 rfl) ?_
  refine lv_iconst (v := (0 : Int32)) hx hb dX0_startAnew_1 (by decide) ?_
  refine va_put (D := G) (ci := 0) (v := .int (0 : Int32)) (ty := .int) (C := RX0) (T := TX0) (N := 3) hx hb hts hinX0 tyX0 tyX0_ok nmX0 hown hK hP hD hS 0 rfl rfl 1 (by decide) (hta _ mw_16) (fun _ h9 => h9) rfl (by decide +kernel) rfl rfl (Nat.le_of_ble_eq_true rfl) dX0_startAnew_2 (fun H locs hP hD hS => ?_)
  have hP : va_P G vwCl [(h_t, .inr (0, [.ref h_t_desks, .int (0 : Int32), .int t_last])), (h_p0, .inr (1, [.int p0_genus, .int p0_size, .ref h_p0_powers, .int p0_limit, .long p0_tree])), (h_t_desks, .inl (cD, 9, .inr (.inr (.inr (.inr (fun i => some (d_t_desks i))))))), ((d_t_desks 0), .inr (1, [.int (t_desks_genus 0), .int (t_desks_size 0), .ref (q_t_desks 0), .int (t_desks_limit 0), .long (t_desks_tree 0)])), ((q_t_desks 0), .inl (cI, 8, .inl (a_t_desks 0))), ((d_t_desks 1), .inr (1, [.int (t_desks_genus 1), .int (t_desks_size 1), .ref (q_t_desks 1), .int (t_desks_limit 1), .long (t_desks_tree 1)])), ((q_t_desks 1), .inl (cI, 8, .inl (a_t_desks 1))), ((d_t_desks 2), .inr (1, [.int (t_desks_genus 2), .int (t_desks_size 2), .ref (q_t_desks 2), .int (t_desks_limit 2), .long (t_desks_tree 2)])), ((q_t_desks 2), .inl (cI, 8, .inl (a_t_desks 2))), ((d_t_desks 3), .inr (1, [.int (t_desks_genus 3), .int (t_desks_size 3), .ref (q_t_desks 3), .int (t_desks_limit 3), .long (t_desks_tree 3)])), ((q_t_desks 3), .inl (cI, 8, .inl (a_t_desks 3))), ((d_t_desks 4), .inr (1, [.int (t_desks_genus 4), .int (t_desks_size 4), .ref (q_t_desks 4), .int (t_desks_limit 4), .long (t_desks_tree 4)])), ((q_t_desks 4), .inl (cI, 8, .inl (a_t_desks 4))), ((d_t_desks 5), .inr (1, [.int (t_desks_genus 5), .int (t_desks_size 5), .ref (q_t_desks 5), .int (t_desks_limit 5), .long (t_desks_tree 5)])), ((q_t_desks 5), .inl (cI, 8, .inl (a_t_desks 5))), ((d_t_desks 6), .inr (1, [.int (t_desks_genus 6), .int (t_desks_size 6), .ref (q_t_desks 6), .int (t_desks_limit 6), .long (t_desks_tree 6)])), ((q_t_desks 6), .inl (cI, 8, .inl (a_t_desks 6))), ((d_t_desks 7), .inr (1, [.int (t_desks_genus 7), .int (t_desks_size 7), .ref (q_t_desks 7), .int (t_desks_limit 7), .long (t_desks_tree 7)])), ((q_t_desks 7), .inl (cI, 8, .inl (a_t_desks 7))), ((d_t_desks 8), .inr (1, [.int (t_desks_genus 8), .int (t_desks_size 8), .ref (q_t_desks 8), .int (t_desks_limit 8), .long (t_desks_tree 8)])), ((q_t_desks 8), .inl (cI, 8, .inl (a_t_desks 8))), (h_p0_powers, .inl (cI, 8, .inl a_p0_powers))] H := hP
  have hD : va_D A [(h_t, .inr (0, [.ref h_t_desks, .int (0 : Int32), .int t_last])), (h_p0, .inr (1, [.int p0_genus, .int p0_size, .ref h_p0_powers, .int p0_limit, .long p0_tree])), (h_t_desks, .inl (cD, 9, .inr (.inr (.inr (.inr (fun i => some (d_t_desks i))))))), ((d_t_desks 0), .inr (1, [.int (t_desks_genus 0), .int (t_desks_size 0), .ref (q_t_desks 0), .int (t_desks_limit 0), .long (t_desks_tree 0)])), ((q_t_desks 0), .inl (cI, 8, .inl (a_t_desks 0))), ((d_t_desks 1), .inr (1, [.int (t_desks_genus 1), .int (t_desks_size 1), .ref (q_t_desks 1), .int (t_desks_limit 1), .long (t_desks_tree 1)])), ((q_t_desks 1), .inl (cI, 8, .inl (a_t_desks 1))), ((d_t_desks 2), .inr (1, [.int (t_desks_genus 2), .int (t_desks_size 2), .ref (q_t_desks 2), .int (t_desks_limit 2), .long (t_desks_tree 2)])), ((q_t_desks 2), .inl (cI, 8, .inl (a_t_desks 2))), ((d_t_desks 3), .inr (1, [.int (t_desks_genus 3), .int (t_desks_size 3), .ref (q_t_desks 3), .int (t_desks_limit 3), .long (t_desks_tree 3)])), ((q_t_desks 3), .inl (cI, 8, .inl (a_t_desks 3))), ((d_t_desks 4), .inr (1, [.int (t_desks_genus 4), .int (t_desks_size 4), .ref (q_t_desks 4), .int (t_desks_limit 4), .long (t_desks_tree 4)])), ((q_t_desks 4), .inl (cI, 8, .inl (a_t_desks 4))), ((d_t_desks 5), .inr (1, [.int (t_desks_genus 5), .int (t_desks_size 5), .ref (q_t_desks 5), .int (t_desks_limit 5), .long (t_desks_tree 5)])), ((q_t_desks 5), .inl (cI, 8, .inl (a_t_desks 5))), ((d_t_desks 6), .inr (1, [.int (t_desks_genus 6), .int (t_desks_size 6), .ref (q_t_desks 6), .int (t_desks_limit 6), .long (t_desks_tree 6)])), ((q_t_desks 6), .inl (cI, 8, .inl (a_t_desks 6))), ((d_t_desks 7), .inr (1, [.int (t_desks_genus 7), .int (t_desks_size 7), .ref (q_t_desks 7), .int (t_desks_limit 7), .long (t_desks_tree 7)])), ((q_t_desks 7), .inl (cI, 8, .inl (a_t_desks 7))), ((d_t_desks 8), .inr (1, [.int (t_desks_genus 8), .int (t_desks_size 8), .ref (q_t_desks 8), .int (t_desks_limit 8), .long (t_desks_tree 8)])), ((q_t_desks 8), .inl (cI, 8, .inl (a_t_desks 8))), (h_p0_powers, .inl (cI, 8, .inl a_p0_powers))] := hD
  refine lv_aload_n hx hb dX0_startAnew_5 rfl (lv_at hl 0 rfl) ?_
  refine lv_iconst (v := (0 : Int32)) hx hb dX0_startAnew_6 (by decide) ?_
  refine va_put (D := G) (ci := 0) (v := .int (0 : Int32)) (ty := .int) (C := RX0) (T := TX0) (N := 3) hx hb hts hinX0 tyX0 tyX0_ok nmX0 hown hK hP hD hS 0 rfl rfl 2 (by decide) (hta _ mw_18) (fun _ h9 => h9) rfl (by decide +kernel) rfl rfl (Nat.le_of_ble_eq_true rfl) dX0_startAnew_7 (fun H locs hP hD hS => ?_)
  have hP : va_P G vwCl [(h_t, .inr (0, [.ref h_t_desks, .int (0 : Int32), .int (0 : Int32)])), (h_p0, .inr (1, [.int p0_genus, .int p0_size, .ref h_p0_powers, .int p0_limit, .long p0_tree])), (h_t_desks, .inl (cD, 9, .inr (.inr (.inr (.inr (fun i => some (d_t_desks i))))))), ((d_t_desks 0), .inr (1, [.int (t_desks_genus 0), .int (t_desks_size 0), .ref (q_t_desks 0), .int (t_desks_limit 0), .long (t_desks_tree 0)])), ((q_t_desks 0), .inl (cI, 8, .inl (a_t_desks 0))), ((d_t_desks 1), .inr (1, [.int (t_desks_genus 1), .int (t_desks_size 1), .ref (q_t_desks 1), .int (t_desks_limit 1), .long (t_desks_tree 1)])), ((q_t_desks 1), .inl (cI, 8, .inl (a_t_desks 1))), ((d_t_desks 2), .inr (1, [.int (t_desks_genus 2), .int (t_desks_size 2), .ref (q_t_desks 2), .int (t_desks_limit 2), .long (t_desks_tree 2)])), ((q_t_desks 2), .inl (cI, 8, .inl (a_t_desks 2))), ((d_t_desks 3), .inr (1, [.int (t_desks_genus 3), .int (t_desks_size 3), .ref (q_t_desks 3), .int (t_desks_limit 3), .long (t_desks_tree 3)])), ((q_t_desks 3), .inl (cI, 8, .inl (a_t_desks 3))), ((d_t_desks 4), .inr (1, [.int (t_desks_genus 4), .int (t_desks_size 4), .ref (q_t_desks 4), .int (t_desks_limit 4), .long (t_desks_tree 4)])), ((q_t_desks 4), .inl (cI, 8, .inl (a_t_desks 4))), ((d_t_desks 5), .inr (1, [.int (t_desks_genus 5), .int (t_desks_size 5), .ref (q_t_desks 5), .int (t_desks_limit 5), .long (t_desks_tree 5)])), ((q_t_desks 5), .inl (cI, 8, .inl (a_t_desks 5))), ((d_t_desks 6), .inr (1, [.int (t_desks_genus 6), .int (t_desks_size 6), .ref (q_t_desks 6), .int (t_desks_limit 6), .long (t_desks_tree 6)])), ((q_t_desks 6), .inl (cI, 8, .inl (a_t_desks 6))), ((d_t_desks 7), .inr (1, [.int (t_desks_genus 7), .int (t_desks_size 7), .ref (q_t_desks 7), .int (t_desks_limit 7), .long (t_desks_tree 7)])), ((q_t_desks 7), .inl (cI, 8, .inl (a_t_desks 7))), ((d_t_desks 8), .inr (1, [.int (t_desks_genus 8), .int (t_desks_size 8), .ref (q_t_desks 8), .int (t_desks_limit 8), .long (t_desks_tree 8)])), ((q_t_desks 8), .inl (cI, 8, .inl (a_t_desks 8))), (h_p0_powers, .inl (cI, 8, .inl a_p0_powers))] H := hP
  have hD : va_D A [(h_t, .inr (0, [.ref h_t_desks, .int (0 : Int32), .int (0 : Int32)])), (h_p0, .inr (1, [.int p0_genus, .int p0_size, .ref h_p0_powers, .int p0_limit, .long p0_tree])), (h_t_desks, .inl (cD, 9, .inr (.inr (.inr (.inr (fun i => some (d_t_desks i))))))), ((d_t_desks 0), .inr (1, [.int (t_desks_genus 0), .int (t_desks_size 0), .ref (q_t_desks 0), .int (t_desks_limit 0), .long (t_desks_tree 0)])), ((q_t_desks 0), .inl (cI, 8, .inl (a_t_desks 0))), ((d_t_desks 1), .inr (1, [.int (t_desks_genus 1), .int (t_desks_size 1), .ref (q_t_desks 1), .int (t_desks_limit 1), .long (t_desks_tree 1)])), ((q_t_desks 1), .inl (cI, 8, .inl (a_t_desks 1))), ((d_t_desks 2), .inr (1, [.int (t_desks_genus 2), .int (t_desks_size 2), .ref (q_t_desks 2), .int (t_desks_limit 2), .long (t_desks_tree 2)])), ((q_t_desks 2), .inl (cI, 8, .inl (a_t_desks 2))), ((d_t_desks 3), .inr (1, [.int (t_desks_genus 3), .int (t_desks_size 3), .ref (q_t_desks 3), .int (t_desks_limit 3), .long (t_desks_tree 3)])), ((q_t_desks 3), .inl (cI, 8, .inl (a_t_desks 3))), ((d_t_desks 4), .inr (1, [.int (t_desks_genus 4), .int (t_desks_size 4), .ref (q_t_desks 4), .int (t_desks_limit 4), .long (t_desks_tree 4)])), ((q_t_desks 4), .inl (cI, 8, .inl (a_t_desks 4))), ((d_t_desks 5), .inr (1, [.int (t_desks_genus 5), .int (t_desks_size 5), .ref (q_t_desks 5), .int (t_desks_limit 5), .long (t_desks_tree 5)])), ((q_t_desks 5), .inl (cI, 8, .inl (a_t_desks 5))), ((d_t_desks 6), .inr (1, [.int (t_desks_genus 6), .int (t_desks_size 6), .ref (q_t_desks 6), .int (t_desks_limit 6), .long (t_desks_tree 6)])), ((q_t_desks 6), .inl (cI, 8, .inl (a_t_desks 6))), ((d_t_desks 7), .inr (1, [.int (t_desks_genus 7), .int (t_desks_size 7), .ref (q_t_desks 7), .int (t_desks_limit 7), .long (t_desks_tree 7)])), ((q_t_desks 7), .inl (cI, 8, .inl (a_t_desks 7))), ((d_t_desks 8), .inr (1, [.int (t_desks_genus 8), .int (t_desks_size 8), .ref (q_t_desks 8), .int (t_desks_limit 8), .long (t_desks_tree 8)])), ((q_t_desks 8), .inl (cI, 8, .inl (a_t_desks 8))), (h_p0_powers, .inl (cI, 8, .inl a_p0_powers))] := hD
  refine lv_aload_n hx hb dX0_startAnew_10 rfl (lv_at hl 0 rfl) ?_
  refine va_get (D := G) (ci := 0) (v := .ref h_t_desks) (C := RX0) (T := TX0) (N := 3) hx hb hts hinX0 hown hK hP 0 rfl rfl 0 (by decide) (hta _ mw_5) (fun _ h9 => h9) rfl dX0_startAnew_11 ?_
  refine lv_iconst (v := (0 : Int32)) hx hb dX0_startAnew_14 (by decide) ?_
  refine va_aldq hx hb hK hP 2 2 rfl rfl (by unfold vp_in; decide) dX0_startAnew_15 ?_
  refine W.eq (g2 := F0 m 16 ls [.ref (d_t_desks 0)]) rfl ?_
  refine lv_aload_n hx hb dX0_startAnew_16 rfl (lv_at hl 1 rfl) ?_
  obtain ⟨x1, hx1, h⟩ := bd_e h
  try dsimp only at h
  refine k_VvM (n := 1) (As := [.ref h_p0]) (rest := []) hx hb hml hown hts (c_X1_copyFrom l G cI cJ cD cH H.size (d_t_desks 0) h_p0 (q_t_desks 0) h_p0_powers (t_desks_genus 0) (t_desks_size 0) (t_desks_limit 0) (t_desks_tree 0) p0_genus p0_size p0_limit p0_tree (a_t_desks 0) a_p0_powers (x1.1) (x1.2.1) (x1.2.2.1) (x1.2.2.2.1) (x1.2.2.2.2) hx1) gX0_startAnew_X1_copyFrom rfl rfl rfl (by decide +kernel) ⟨by first | exact Nat.le_of_ble_eq_true rfl | (simp only [headSpec]; omega), by first | exact Nat.le_of_ble_eq_true rfl | (simp only [headSpec]; omega)⟩ hK hP hD hS hA [3, 1, 4, 21] (by decide) rfl rfl (ci := 1) rfl rfl rfl rfl rfl hl.1 (Nat.le_of_ble_eq_true rfl) dX0_startAnew_17 ⟨Nat.zero_le _, Nat.zero_le _⟩ [(h_t, .inr (0, [.ref h_t_desks, .int (0 : Int32), .int (0 : Int32)])), (h_p0, .inr (1, [.int p0_genus, .int p0_size, .ref h_p0_powers, .int p0_limit, .long p0_tree])), (h_t_desks, .inl (cD, 9, .inr (.inr (.inr (.inr (fun i => some (d_t_desks i))))))), ((d_t_desks 0), .inr (1, [.int ((va_up t_desks_genus 0 (x1.2.1)) 0), .int ((va_up t_desks_size 0 (x1.2.2.1)) 0), .ref (q_t_desks 0), .int ((va_up t_desks_limit 0 (x1.2.2.2.1)) 0), .long ((va_up t_desks_tree 0 (x1.2.2.2.2)) 0)])), ((q_t_desks 0), .inl (cI, 8, .inl ((va_up a_t_desks 0 (x1.1)) 0))), ((d_t_desks 1), .inr (1, [.int ((va_up t_desks_genus 0 (x1.2.1)) 1), .int ((va_up t_desks_size 0 (x1.2.2.1)) 1), .ref (q_t_desks 1), .int ((va_up t_desks_limit 0 (x1.2.2.2.1)) 1), .long ((va_up t_desks_tree 0 (x1.2.2.2.2)) 1)])), ((q_t_desks 1), .inl (cI, 8, .inl ((va_up a_t_desks 0 (x1.1)) 1))), ((d_t_desks 2), .inr (1, [.int ((va_up t_desks_genus 0 (x1.2.1)) 2), .int ((va_up t_desks_size 0 (x1.2.2.1)) 2), .ref (q_t_desks 2), .int ((va_up t_desks_limit 0 (x1.2.2.2.1)) 2), .long ((va_up t_desks_tree 0 (x1.2.2.2.2)) 2)])), ((q_t_desks 2), .inl (cI, 8, .inl ((va_up a_t_desks 0 (x1.1)) 2))), ((d_t_desks 3), .inr (1, [.int ((va_up t_desks_genus 0 (x1.2.1)) 3), .int ((va_up t_desks_size 0 (x1.2.2.1)) 3), .ref (q_t_desks 3), .int ((va_up t_desks_limit 0 (x1.2.2.2.1)) 3), .long ((va_up t_desks_tree 0 (x1.2.2.2.2)) 3)])), ((q_t_desks 3), .inl (cI, 8, .inl ((va_up a_t_desks 0 (x1.1)) 3))), ((d_t_desks 4), .inr (1, [.int ((va_up t_desks_genus 0 (x1.2.1)) 4), .int ((va_up t_desks_size 0 (x1.2.2.1)) 4), .ref (q_t_desks 4), .int ((va_up t_desks_limit 0 (x1.2.2.2.1)) 4), .long ((va_up t_desks_tree 0 (x1.2.2.2.2)) 4)])), ((q_t_desks 4), .inl (cI, 8, .inl ((va_up a_t_desks 0 (x1.1)) 4))), ((d_t_desks 5), .inr (1, [.int ((va_up t_desks_genus 0 (x1.2.1)) 5), .int ((va_up t_desks_size 0 (x1.2.2.1)) 5), .ref (q_t_desks 5), .int ((va_up t_desks_limit 0 (x1.2.2.2.1)) 5), .long ((va_up t_desks_tree 0 (x1.2.2.2.2)) 5)])), ((q_t_desks 5), .inl (cI, 8, .inl ((va_up a_t_desks 0 (x1.1)) 5))), ((d_t_desks 6), .inr (1, [.int ((va_up t_desks_genus 0 (x1.2.1)) 6), .int ((va_up t_desks_size 0 (x1.2.2.1)) 6), .ref (q_t_desks 6), .int ((va_up t_desks_limit 0 (x1.2.2.2.1)) 6), .long ((va_up t_desks_tree 0 (x1.2.2.2.2)) 6)])), ((q_t_desks 6), .inl (cI, 8, .inl ((va_up a_t_desks 0 (x1.1)) 6))), ((d_t_desks 7), .inr (1, [.int ((va_up t_desks_genus 0 (x1.2.1)) 7), .int ((va_up t_desks_size 0 (x1.2.2.1)) 7), .ref (q_t_desks 7), .int ((va_up t_desks_limit 0 (x1.2.2.2.1)) 7), .long ((va_up t_desks_tree 0 (x1.2.2.2.2)) 7)])), ((q_t_desks 7), .inl (cI, 8, .inl ((va_up a_t_desks 0 (x1.1)) 7))), ((d_t_desks 8), .inr (1, [.int ((va_up t_desks_genus 0 (x1.2.1)) 8), .int ((va_up t_desks_size 0 (x1.2.2.1)) 8), .ref (q_t_desks 8), .int ((va_up t_desks_limit 0 (x1.2.2.2.1)) 8), .long ((va_up t_desks_tree 0 (x1.2.2.2.2)) 8)])), ((q_t_desks 8), .inl (cI, 8, .inl ((va_up a_t_desks 0 (x1.1)) 8))), (h_p0_powers, .inl (cI, 8, .inl a_p0_powers))] [0, 2, 0, 1, 3, 0, 0, 0, 0, 0, 0, 0, 0, 0, 0, 0, 0, 0, 0, 0, 0, 4] 4 (by decide +kernel) rfl rfl rfl (fun hp1 H locs hP hD hS => ?_)
  have h9 := Option.some.inj h
  have e9 : (0 : Int32) = w0 := congrArg (fun z9 => z9.1) h9
  rw [← e9]
  have e9 : (0 : Int32) = w1 := congrArg (fun z9 => z9.2.1) h9
  rw [← e9]
  have e9 : (va_up a_t_desks 0 (x1.1)) = w2 := congrArg (fun z9 => z9.2.2.1) h9
  rw [← e9]
  have e9 : (va_up t_desks_genus 0 (x1.2.1)) = w3 := congrArg (fun z9 => z9.2.2.2.1) h9
  rw [← e9]
  have e9 : (va_up t_desks_limit 0 (x1.2.2.2.1)) = w4 := congrArg (fun z9 => z9.2.2.2.2.1) h9
  rw [← e9]
  have e9 : (va_up t_desks_size 0 (x1.2.2.1)) = w5 := congrArg (fun z9 => z9.2.2.2.2.2.1) h9
  rw [← e9]
  have e9 : (va_up t_desks_tree 0 (x1.2.2.2.2)) = w6 := congrArg (fun z9 => z9.2.2.2.2.2.2) h9
  rw [← e9]
  exact k_vret hx hb hr hlocks hP hS dX0_startAnew_20

/-! X1_hasMark -/
set_option maxHeartbeats 4000000 in
set_option maxRecDepth 100000 in
theorem c_X1_hasMark (l : Launch) (G : va_G) (cI cJ cD cH : ClassId) (sz : Nat) (h_t : Nat) (h_t_powers : Nat) (t_genus : Int32) (t_size : Int32) (t_limit : Int32) (t_tree : Int64) (p0 : Int32) (r0 : Int32) (hF : F_X1_hasMark t_size p0 = some r0) : Met l yX1_hasMark wsX1_hasMark ({ frames := 0, cells := 0, slots := 0, locals := 0 }) (k_pre G (k_T cI cJ cD cH) [(h_t, .inr (1, [.int t_genus, .int t_size, .ref h_t_powers, .int t_limit, .long t_tree]))] sz [.ref h_t, .int p0]) (va_Qi (fun r (_ : Unit) => r = r0 ∧ narrow .boolean (.int r0) = .int r0) (fun _ t => va_P G vwCl [(h_t, .inr (1, [.int t_genus, .int t_size, .ref h_t_powers, .int t_limit, .long t_tree]))] t.heap) (va_A [(h_t, .inr (1, [.int t_genus, .int t_size, .ref h_t_powers, .int t_limit, .long t_tree]))] sz)) 0 0 (va_A [(h_t, .inr (1, [.int t_genus, .int t_size, .ref h_t_powers, .int t_limit, .long t_tree]))] sz) := by
  refine Met.ofW (cc := cX1_hasMark) (maxL := 2) (ret := (some .boolean)) (by decide) rfl ?_
  intro p e s m args below meth c s₁ B hml hv
  obtain ⟨rfl, hsz, hP, hK, hD0⟩ := hv
  have hx := B.exec
  have hb := B.bytes
  have hr := B.returns
  have hts := atoms_spec (ws := wsX1_hasMark) B.pre
  have hta : ∀ w ∈ wA, w.before ([.ref h_t, .int p0] : List Value).toArray s = true := hta_of hts
  have hown : s.vm.findClass RX1 = some m.cls := findClass_of_methodNamed B.named
  have hlocks := B.notSynchronized
  subst hsz
  have hD := hD0.self (sz := s.heap.size)
  generalize hAe : va_A [(h_t, .inr (1, [.int t_genus, .int t_size, .ref h_t_powers, .int t_limit, .long t_tree]))] s.heap.size = A at hD ⊢
  have hA : ∀ q : Nat, s.heap.size ≤ q → A q := fun q h => by rw [← hAe]; exact Or.inr h
  have hS : va_S A s.heap s.heap [] := va_S.rf
  have hl := lv_entry ([.ref h_t, .int p0]) (n := 2) (Nat.le_of_ble_eq_true rfl)
  rw [lg_entry_eq]
  generalize (lg_sl ([.ref h_t, .int p0]) ++ List.replicate (2 - (lg_sl ([.ref h_t, .int p0])).length) Slot.unset).toArray = ls at hl ⊢
  have hl : lv_has ls 2 [(0, .ref h_t), (1, .int p0)] := hl
  have hinX1 : ∀ w ∈ wsX10, w ∈ wsX1_hasMark := hin_of in_X1
  have h := hF
  unfold F_X1_hasMark at h
  refine lv_iload_n hx hb dX1_hasMark_0 rfl (lv_at hl 1 rfl) ?_
  refine lv_if_lt (tgt := 16) hx hb dX1_hasMark_1 (by decide) (fun c1 => ?_) (fun c1 => ?_)
  · have h := it_p h c1
    refine lv_iconst (v := (0 : Int32)) hx hb dX1_hasMark_16 (by decide) ?_
    have h9 := Option.some.inj h
    have e9 : (0 : Int32) = r0 := congrArg (fun z9 => z9) h9
    rw [← e9]
    exact k_zret hx hb hr hlocks hP hS rfl rfl dX1_hasMark_17
  have h := it_n h c1
  refine lv_iload_n hx hb dX1_hasMark_4 rfl (lv_at hl 1 rfl) ?_
  refine lv_aload_n hx hb dX1_hasMark_5 rfl (lv_at hl 0 rfl) ?_
  refine va_get (D := G) (ci := 1) (v := .int t_size) (C := RX1) (T := TX1) (N := 5) hx hb hts hinX1 hown hK hP 0 rfl rfl 1 (by decide) (hta _ mw_31) (fun _ h9 => h9) rfl dX1_hasMark_6 ?_
  refine lv_icmp_ge (tgt := 16) hx hb dX1_hasMark_9 (by decide) (fun c2 => ?_) (fun c2 => ?_)
  · have h := it_p h c2
    refine lv_iconst (v := (0 : Int32)) hx hb dX1_hasMark_16 (by decide) ?_
    have h9 := Option.some.inj h
    have e9 : (0 : Int32) = r0 := congrArg (fun z9 => z9) h9
    rw [← e9]
    exact k_zret hx hb hr hlocks hP hS rfl rfl dX1_hasMark_17
  have h := it_n h c2
  refine lv_iconst (v := (1 : Int32)) hx hb dX1_hasMark_12 (by decide) ?_
  refine lv_goto (tgt := 17) hx hb dX1_hasMark_13 (by decide) ?_
  have h9 := Option.some.inj h
  have e9 : (1 : Int32) = r0 := congrArg (fun z9 => z9) h9
  rw [← e9]
  exact k_zret hx hb hr hlocks hP hS rfl rfl dX1_hasMark_17

/-! X1_setPower -/
set_option maxHeartbeats 4000000 in
set_option maxRecDepth 100000 in
theorem c_X1_setPower (l : Launch) (G : va_G) (cI cJ cD cH : ClassId) (sz : Nat) (h_t : Nat) (h_t_powers : Nat) (t_genus : Int32) (t_size : Int32) (t_limit : Int32) (t_tree : Int64) (a_t_powers : Nat → Int32) (p0 : Int32) (p1 : Int32) (w0 : Nat → Int32) (hF : F_X1_setPower a_t_powers p0 p1 = some w0) : Met l yX1_setPower wsX1_setPower ({ frames := 0, cells := 0, slots := 0, locals := 0 }) (k_pre G (k_T cI cJ cD cH) [(h_t, .inr (1, [.int t_genus, .int t_size, .ref h_t_powers, .int t_limit, .long t_tree])), (h_t_powers, .inl (cI, 8, .inl a_t_powers))] sz [.ref h_t, .int p0, .int p1]) (va_Qv (fun (_ : Unit) => True) (fun _ t => va_P G vwCl [(h_t, .inr (1, [.int t_genus, .int t_size, .ref h_t_powers, .int t_limit, .long t_tree])), (h_t_powers, .inl (cI, 8, .inl w0))] t.heap) (va_A [(h_t, .inr (1, [.int t_genus, .int t_size, .ref h_t_powers, .int t_limit, .long t_tree])), (h_t_powers, .inl (cI, 8, .inl a_t_powers))] sz)) 0 0 (va_A [(h_t, .inr (1, [.int t_genus, .int t_size, .ref h_t_powers, .int t_limit, .long t_tree])), (h_t_powers, .inl (cI, 8, .inl a_t_powers))] sz) := by
  refine Met.ofW (cc := cX1_setPower) (maxL := 3) (ret := none) (by decide) rfl ?_
  intro p e s m args below meth c s₁ B hml hv
  obtain ⟨rfl, hsz, hP, hK, hD0⟩ := hv
  have hx := B.exec
  have hb := B.bytes
  have hr := B.returns
  have hts := atoms_spec (ws := wsX1_setPower) B.pre
  have hta : ∀ w ∈ wA, w.before ([.ref h_t, .int p0, .int p1] : List Value).toArray s = true := hta_of hts
  have hown : s.vm.findClass RX1 = some m.cls := findClass_of_methodNamed B.named
  have hlocks := B.notSynchronized
  subst hsz
  have hD := hD0.self (sz := s.heap.size)
  generalize hAe : va_A [(h_t, .inr (1, [.int t_genus, .int t_size, .ref h_t_powers, .int t_limit, .long t_tree])), (h_t_powers, .inl (cI, 8, .inl a_t_powers))] s.heap.size = A at hD ⊢
  have hA : ∀ q : Nat, s.heap.size ≤ q → A q := fun q h => by rw [← hAe]; exact Or.inr h
  have hS : va_S A s.heap s.heap [] := va_S.rf
  have hl := lv_entry ([.ref h_t, .int p0, .int p1]) (n := 3) (Nat.le_of_ble_eq_true rfl)
  rw [lg_entry_eq]
  generalize (lg_sl ([.ref h_t, .int p0, .int p1]) ++ List.replicate (3 - (lg_sl ([.ref h_t, .int p0, .int p1])).length) Slot.unset).toArray = ls at hl ⊢
  have hl : lv_has ls 3 [(0, .ref h_t), (1, .int p0), (2, .int p1)] := hl
  have hinX1 : ∀ w ∈ wsX10, w ∈ wsX1_setPower := hin_of in_X1
  have h := hF
  unfold F_X1_setPower at h
  refine lv_iload_n hx hb dX1_setPower_0 rfl (lv_at hl 1 rfl) ?_
  refine lv_if_lt (tgt := 17) hx hb dX1_setPower_1 (by decide) (fun c1 => ?_) (fun c1 => ?_)
  · have h := it_p h c1
    have h9 := Option.some.inj h
    have e9 : a_t_powers = w0 := congrArg (fun z9 => z9) h9
    rw [← e9]
    exact k_vret hx hb hr hlocks hP hS dX1_setPower_17
  have h := it_n h c1
  refine lv_iload_n hx hb dX1_setPower_4 rfl (lv_at hl 1 rfl) ?_
  refine lv_bipush (v := (8 : Int32)) hx hb dX1_setPower_5 (by decide) ?_
  refine lv_icmp_ge (tgt := 17) hx hb dX1_setPower_7 (by decide) (fun c2 => ?_) (fun c2 => ?_)
  · have h := it_p h c2
    have h9 := Option.some.inj h
    have e9 : a_t_powers = w0 := congrArg (fun z9 => z9) h9
    rw [← e9]
    exact k_vret hx hb hr hlocks hP hS dX1_setPower_17
  have h := it_n h c2
  refine lv_aload_n hx hb dX1_setPower_10 rfl (lv_at hl 0 rfl) ?_
  refine va_get (D := G) (ci := 1) (v := .ref h_t_powers) (C := RX1) (T := TX1) (N := 5) hx hb hts hinX1 hown hK hP 0 rfl rfl 2 (by decide) (hta _ mw_13) (fun _ h9 => h9) rfl dX1_setPower_11 ?_
  refine lv_iload_n hx hb dX1_setPower_14 rfl (lv_at hl 1 rfl) ?_
  refine lv_iload_n hx hb dX1_setPower_15 rfl (lv_at hl 2 rfl) ?_
  obtain ⟨hn3, h⟩ := ck_e h
  refine va_iast hx hb hK hP hD hS 1 0 rfl rfl hn3 dX1_setPower_16 (fun H locs hP hD hS => ?_)
  have hP : va_P G vwCl [(h_t, .inr (1, [.int t_genus, .int t_size, .ref h_t_powers, .int t_limit, .long t_tree])), (h_t_powers, .inl (cI, 8, .inl (upd a_t_powers p0.toNatClampNeg p1)))] H := hP
  have hD : va_D A [(h_t, .inr (1, [.int t_genus, .int t_size, .ref h_t_powers, .int t_limit, .long t_tree])), (h_t_powers, .inl (cI, 8, .inl (upd a_t_powers p0.toNatClampNeg p1)))] := hD
  have h9 := Option.some.inj h
  have e9 : (upd a_t_powers p0.toNatClampNeg p1) = w0 := congrArg (fun z9 => z9) h9
  rw [← e9]
  exact k_vret hx hb hr hlocks hP hS dX1_setPower_17

/-! X1_addMark -/
set_option maxHeartbeats 4000000 in
set_option maxRecDepth 100000 in
theorem c_X1_addMark (l : Launch) (G : va_G) (cI cJ cD cH : ClassId) (sz : Nat) (h_t : Nat) (h_t_powers : Nat) (t_genus : Int32) (t_size : Int32) (t_limit : Int32) (t_tree : Int64) (a_t_powers : Nat → Int32) (p0 : Int32) (w0 : Nat → Int32) (w1 : Int32) (hF : F_X1_addMark t_size a_t_powers p0 = some (w0, w1)) : Met l yX1_addMark wsX1_addMark ({ frames := 1, cells := 0, slots := 0, locals := 22 }) (k_pre G (k_T cI cJ cD cH) [(h_t, .inr (1, [.int t_genus, .int t_size, .ref h_t_powers, .int t_limit, .long t_tree])), (h_t_powers, .inl (cI, 8, .inl a_t_powers))] sz [.ref h_t, .int p0]) (va_Qv (fun (_ : Unit) => True) (fun _ t => va_P G vwCl [(h_t, .inr (1, [.int t_genus, .int w1, .ref h_t_powers, .int t_limit, .long t_tree])), (h_t_powers, .inl (cI, 8, .inl w0))] t.heap) (va_A [(h_t, .inr (1, [.int t_genus, .int t_size, .ref h_t_powers, .int t_limit, .long t_tree])), (h_t_powers, .inl (cI, 8, .inl a_t_powers))] sz)) 0 0 (va_A [(h_t, .inr (1, [.int t_genus, .int t_size, .ref h_t_powers, .int t_limit, .long t_tree])), (h_t_powers, .inl (cI, 8, .inl a_t_powers))] sz) := by
  refine Met.ofW (cc := cX1_addMark) (maxL := 2) (ret := none) (by decide) rfl ?_
  intro p e s m args below meth c s₁ B hml hv
  obtain ⟨rfl, hsz, hP, hK, hD0⟩ := hv
  have hx := B.exec
  have hb := B.bytes
  have hr := B.returns
  have hts := atoms_spec (ws := wsX1_addMark) B.pre
  have hta : ∀ w ∈ wA, w.before ([.ref h_t, .int p0] : List Value).toArray s = true := hta_of hts
  have hown : s.vm.findClass RX1 = some m.cls := findClass_of_methodNamed B.named
  have hlocks := B.notSynchronized
  subst hsz
  have hD := hD0.self (sz := s.heap.size)
  generalize hAe : va_A [(h_t, .inr (1, [.int t_genus, .int t_size, .ref h_t_powers, .int t_limit, .long t_tree])), (h_t_powers, .inl (cI, 8, .inl a_t_powers))] s.heap.size = A at hD ⊢
  have hA : ∀ q : Nat, s.heap.size ≤ q → A q := fun q h => by rw [← hAe]; exact Or.inr h
  have hS : va_S A s.heap s.heap [] := va_S.rf
  have hl := lv_entry ([.ref h_t, .int p0]) (n := 2) (Nat.le_of_ble_eq_true rfl)
  rw [lg_entry_eq]
  generalize (lg_sl ([.ref h_t, .int p0]) ++ List.replicate (2 - (lg_sl ([.ref h_t, .int p0])).length) Slot.unset).toArray = ls at hl ⊢
  have hl : lv_has ls 2 [(0, .ref h_t), (1, .int p0)] := hl
  have hinX1 : ∀ w ∈ wsX10, w ∈ wsX1_addMark := hin_of in_X1
  have h := hF
  unfold F_X1_addMark at h
  refine lv_aload_n hx hb dX1_addMark_0 rfl (lv_at hl 0 rfl) ?_
  refine va_get (D := G) (ci := 1) (v := .int t_size) (C := RX1) (T := TX1) (N := 5) hx hb hts hinX1 hown hK hP 0 rfl rfl 1 (by decide) (hta _ mw_31) (fun _ h9 => h9) rfl dX1_addMark_1 ?_
  refine lv_bipush (v := (8 : Int32)) hx hb dX1_addMark_4 (by decide) ?_
  refine lv_icmp_ge (tgt := 28) hx hb dX1_addMark_6 (by decide) (fun c1 => ?_) (fun c1 => ?_)
  · have h := it_p h c1
    have h9 := Option.some.inj h
    have e9 : a_t_powers = w0 := congrArg (fun z9 => z9.1) h9
    rw [← e9]
    have e9 : t_size = w1 := congrArg (fun z9 => z9.2) h9
    rw [← e9]
    exact k_vret hx hb hr hlocks hP hS dX1_addMark_28
  have h := it_n h c1
  refine lv_aload_n hx hb dX1_addMark_9 rfl (lv_at hl 0 rfl) ?_
  refine lv_aload_n hx hb dX1_addMark_10 rfl (lv_at hl 0 rfl) ?_
  refine va_get (D := G) (ci := 1) (v := .int t_size) (C := RX1) (T := TX1) (N := 5) hx hb hts hinX1 hown hK hP 0 rfl rfl 1 (by decide) (hta _ mw_31) (fun _ h9 => h9) rfl dX1_addMark_11 ?_
  refine lv_iload_n hx hb dX1_addMark_14 rfl (lv_at hl 1 rfl) ?_
  obtain ⟨x2, hx2, h⟩ := bd_e h
  try dsimp only at h
  refine k_VvM (n := 2) (As := [.int t_size, .int p0]) (rest := []) hx hb hml hown hts (c_X1_setPower l G cI cJ cD cH s.heap.size h_t h_t_powers t_genus t_size t_limit t_tree a_t_powers t_size p0 x2 hx2) gX1_addMark_X1_setPower rfl rfl rfl (by decide +kernel) ⟨by first | exact Nat.le_of_ble_eq_true rfl | (simp only [headSpec]; omega), by first | exact Nat.le_of_ble_eq_true rfl | (simp only [headSpec]; omega)⟩ hK hP hD hS hA [0, 1] (by decide) rfl rfl (ci := 1) rfl rfl rfl rfl rfl hl.1 (Nat.le_of_ble_eq_true rfl) dX1_addMark_15 ⟨Nat.zero_le _, Nat.zero_le _⟩ [(h_t, .inr (1, [.int t_genus, .int t_size, .ref h_t_powers, .int t_limit, .long t_tree])), (h_t_powers, .inl (cI, 8, .inl x2))] [1, 2] 2 (by decide +kernel) rfl rfl rfl (fun hp2 H locs hP hD hS => ?_)
  refine lv_aload_n hx hb dX1_addMark_18 rfl (lv_at hl 0 rfl) ?_
  refine lv_dup hx hb dX1_addMark_19 rfl ?_
  refine va_get (D := G) (ci := 1) (v := .int t_size) (C := RX1) (T := TX1) (N := 5) hx hb hts hinX1 hown hK hP 0 rfl rfl 1 (by decide) (hta _ mw_31) (fun _ h9 => h9) rfl dX1_addMark_20 ?_
  refine lv_iconst (v := (1 : Int32)) hx hb dX1_addMark_23 (by decide) ?_
  refine lv_iadd hx hb dX1_addMark_24 ?_
  refine va_put (D := G) (ci := 1) (v := .int (t_size + (1 : Int32))) (ty := .int) (C := RX1) (T := TX1) (N := 5) hx hb hts hinX1 tyX1 tyX1_ok nmX1 hown hK hP hD hS 0 rfl rfl 1 (by decide) (hta _ mw_31) (fun _ h9 => h9) rfl (by decide +kernel) rfl rfl (Nat.le_of_ble_eq_true rfl) dX1_addMark_25 (fun H locs hP hD hS => ?_)
  have hP : va_P G vwCl [(h_t, .inr (1, [.int t_genus, .int (t_size + (1 : Int32)), .ref h_t_powers, .int t_limit, .long t_tree])), (h_t_powers, .inl (cI, 8, .inl x2))] H := hP
  have hD : va_D A [(h_t, .inr (1, [.int t_genus, .int (t_size + (1 : Int32)), .ref h_t_powers, .int t_limit, .long t_tree])), (h_t_powers, .inl (cI, 8, .inl x2))] := hD
  have h9 := Option.some.inj h
  have e9 : x2 = w0 := congrArg (fun z9 => z9.1) h9
  rw [← e9]
  have e9 : (t_size + (1 : Int32)) = w1 := congrArg (fun z9 => z9.2) h9
  rw [← e9]
  exact k_vret hx hb hr hlocks hP hS dX1_addMark_28

/-! X1_dropMark -/
set_option maxHeartbeats 4000000 in
set_option maxRecDepth 100000 in
theorem tK_X1_dropMark_2_30 {l : Launch} {G : va_G} {cI cJ cD cH : ClassId} {h_t : Nat} {h_t_powers : Nat} {t_genus : Int32} {t_size : Int32} {t_limit : Int32} {t_tree : Int64} {p0 : Int32} {w0 : Nat → Int32} {w1 : Int32} {p : Program} {e : Env} {s : State} {m : MethodId} {below : List Frame} {meth : Method} {c : Code} {A : Nat → Prop} (hx : p.tables.exec = Jvm.exec) (hb : c.code = cX1_dropMark) (hr : meth.sig.returnType = none) (hml : c.maxLocals = 3) (hts : ∀ w ∈ wsX1_dropMark, w.before ([.ref h_t, .int p0] : List Value).toArray s = true) (hown : s.vm.findClass RX1 = some m.cls) (hlocks : meth.locks = false) (hK : va_K G vwCl (k_T cI cJ cD cH) s) (hA : ∀ q : Nat, s.heap.size ≤ q → A q) : ∀  (vK2_30_0 : Nat → Int32) (H : Heap) (locs : List Loc) (ls : Array Slot), va_P G vwCl [(h_t, .inr (1, [.int t_genus, .int t_size, .ref h_t_powers, .int t_limit, .long t_tree])), (h_t_powers, .inl (cI, 8, .inl vK2_30_0))] H → va_D A [(h_t, .inr (1, [.int t_genus, .int t_size, .ref h_t_powers, .int t_limit, .long t_tree])), (h_t_powers, .inl (cI, 8, .inl vK2_30_0))] → va_S A s.heap H locs → lv_has ls 3 [(0, .ref h_t)] → K_X1_dropMark_2_30 t_size vK2_30_0 = some (w0, w1) → W p l e (headSpec wsX1_dropMark ({ frames := 1, cells := 0, slots := 0, locals := 22 })).room s m ([.ref h_t, .int p0] : List Value).toArray below meth c H locs 0 0 (MQ below (va_Qv (fun (_ : Unit) => True) (fun _ t => va_P G vwCl [(h_t, .inr (1, [.int t_genus, .int w1, .ref h_t_powers, .int t_limit, .long t_tree])), (h_t_powers, .inl (cI, 8, .inl w0))] t.heap) A) ([.ref h_t, .int p0] : List Value).toArray s 0 0 A) (F0 m 30 ls []) := by
  have hta : ∀ w ∈ wA, w.before ([.ref h_t, .int p0] : List Value).toArray s = true := hta_of hts
  have hinX1 : ∀ w ∈ wsX10, w ∈ wsX1_dropMark := hin_of in_X1
  intro vK2_30_0 H locs ls hP hD hS hl h
  unfold K_X1_dropMark_2_30 at h
  refine lv_aload_n hx hb dX1_dropMark_30 rfl (lv_at hl 0 rfl) ?_
  refine lv_dup hx hb dX1_dropMark_31 rfl ?_
  refine va_get (D := G) (ci := 1) (v := .int t_size) (C := RX1) (T := TX1) (N := 5) hx hb hts hinX1 hown hK hP 0 rfl rfl 1 (by decide) (hta _ mw_31) (fun _ h9 => h9) rfl dX1_dropMark_32 ?_
  refine lv_iconst (v := (1 : Int32)) hx hb dX1_dropMark_35 (by decide) ?_
  refine lv_isub hx hb dX1_dropMark_36 ?_
  refine va_put (D := G) (ci := 1) (v := .int (t_size - (1 : Int32))) (ty := .int) (C := RX1) (T := TX1) (N := 5) hx hb hts hinX1 tyX1 tyX1_ok nmX1 hown hK hP hD hS 0 rfl rfl 1 (by decide) (hta _ mw_31) (fun _ h9 => h9) rfl (by decide +kernel) rfl rfl (Nat.le_of_ble_eq_true rfl) dX1_dropMark_37 (fun H locs hP hD hS => ?_)
  have hP : va_P G vwCl [(h_t, .inr (1, [.int t_genus, .int (t_size - (1 : Int32)), .ref h_t_powers, .int t_limit, .long t_tree])), (h_t_powers, .inl (cI, 8, .inl vK2_30_0))] H := hP
  have hD : va_D A [(h_t, .inr (1, [.int t_genus, .int (t_size - (1 : Int32)), .ref h_t_powers, .int t_limit, .long t_tree])), (h_t_powers, .inl (cI, 8, .inl vK2_30_0))] := hD
  have h9 := Option.some.inj h
  have e9 : vK2_30_0 = w0 := congrArg (fun z9 => z9.1) h9
  rw [← e9]
  have e9 : (t_size - (1 : Int32)) = w1 := congrArg (fun z9 => z9.2) h9
  rw [← e9]
  exact k_vret hx hb hr hlocks hP hS dX1_dropMark_40
set_option maxHeartbeats 4000000 in
set_option maxRecDepth 100000 in
theorem c_X1_dropMark (l : Launch) (G : va_G) (cI cJ cD cH : ClassId) (sz : Nat) (h_t : Nat) (h_t_powers : Nat) (t_genus : Int32) (t_size : Int32) (t_limit : Int32) (t_tree : Int64) (a_t_powers : Nat → Int32) (p0 : Int32) (w0 : Nat → Int32) (w1 : Int32) (hF : F_X1_dropMark t_size a_t_powers p0 = some (w0, w1)) : Met l yX1_dropMark wsX1_dropMark ({ frames := 1, cells := 0, slots := 0, locals := 22 }) (k_pre G (k_T cI cJ cD cH) [(h_t, .inr (1, [.int t_genus, .int t_size, .ref h_t_powers, .int t_limit, .long t_tree])), (h_t_powers, .inl (cI, 8, .inl a_t_powers))] sz [.ref h_t, .int p0]) (va_Qv (fun (_ : Unit) => True) (fun _ t => va_P G vwCl [(h_t, .inr (1, [.int t_genus, .int w1, .ref h_t_powers, .int t_limit, .long t_tree])), (h_t_powers, .inl (cI, 8, .inl w0))] t.heap) (va_A [(h_t, .inr (1, [.int t_genus, .int t_size, .ref h_t_powers, .int t_limit, .long t_tree])), (h_t_powers, .inl (cI, 8, .inl a_t_powers))] sz)) 0 0 (va_A [(h_t, .inr (1, [.int t_genus, .int t_size, .ref h_t_powers, .int t_limit, .long t_tree])), (h_t_powers, .inl (cI, 8, .inl a_t_powers))] sz) := by
  refine Met.ofW (cc := cX1_dropMark) (maxL := 3) (ret := none) (by decide) rfl ?_
  intro p e s m args below meth c s₁ B hml hv
  obtain ⟨rfl, hsz, hP, hK, hD0⟩ := hv
  have hx := B.exec
  have hb := B.bytes
  have hr := B.returns
  have hts := atoms_spec (ws := wsX1_dropMark) B.pre
  have hta : ∀ w ∈ wA, w.before ([.ref h_t, .int p0] : List Value).toArray s = true := hta_of hts
  have hown : s.vm.findClass RX1 = some m.cls := findClass_of_methodNamed B.named
  have hlocks := B.notSynchronized
  subst hsz
  have hD := hD0.self (sz := s.heap.size)
  generalize hAe : va_A [(h_t, .inr (1, [.int t_genus, .int t_size, .ref h_t_powers, .int t_limit, .long t_tree])), (h_t_powers, .inl (cI, 8, .inl a_t_powers))] s.heap.size = A at hD ⊢
  have hA : ∀ q : Nat, s.heap.size ≤ q → A q := fun q h => by rw [← hAe]; exact Or.inr h
  have hS : va_S A s.heap s.heap [] := va_S.rf
  have hl := lv_entry ([.ref h_t, .int p0]) (n := 3) (Nat.le_of_ble_eq_true rfl)
  rw [lg_entry_eq]
  generalize (lg_sl ([.ref h_t, .int p0]) ++ List.replicate (3 - (lg_sl ([.ref h_t, .int p0])).length) Slot.unset).toArray = ls at hl ⊢
  have hl : lv_has ls 3 [(0, .ref h_t), (1, .int p0)] := hl
  have hinX1 : ∀ w ∈ wsX10, w ∈ wsX1_dropMark := hin_of in_X1
  have h := hF
  unfold F_X1_dropMark at h
  refine lv_iload_n hx hb dX1_dropMark_0 rfl (lv_at hl 1 rfl) ?_
  refine lv_istore_n (lv' := [(2, .int p0), (0, .ref h_t), (1, .int p0)]) hx hb dX1_dropMark_1 rfl hl (by decide) rfl (fun ls hl => ?_)
  have hL2 : ∀ (n2 : Nat) (vL2_0 : Nat → Int32) (vL2_1 : Int32) (H : Heap) (locs : List Loc) (ls : Array Slot), va_P G vwCl [(h_t, .inr (1, [.int t_genus, .int t_size, .ref h_t_powers, .int t_limit, .long t_tree])), (h_t_powers, .inl (cI, 8, .inl vL2_0))] H → va_D A [(h_t, .inr (1, [.int t_genus, .int t_size, .ref h_t_powers, .int t_limit, .long t_tree])), (h_t_powers, .inl (cI, 8, .inl vL2_0))] → va_S A s.heap H locs → lv_has ls 3 [(0, .ref h_t), (2, .int vL2_1)] → wq2 (B_X1_dropMark_2 t_size (K_X1_dropMark_2_30 t_size)) n2 vL2_0 vL2_1 = some (w0, w1) → W p l e (headSpec wsX1_dropMark ({ frames := 1, cells := 0, slots := 0, locals := 22 })).room s m ([.ref h_t, .int p0] : List Value).toArray below meth c H locs 0 0 (MQ below (va_Qv (fun (_ : Unit) => True) (fun _ t => va_P G vwCl [(h_t, .inr (1, [.int t_genus, .int w1, .ref h_t_powers, .int t_limit, .long t_tree])), (h_t_powers, .inl (cI, 8, .inl w0))] t.heap) A) ([.ref h_t, .int p0] : List Value).toArray s 0 0 A) (F0 m 2 ls []) := by
    intro n2
    induction n2 with
    | zero => intro vL2_0 vL2_1 H locs ls hP hD hS hl h; exact wq2_0 h
    | succ n2 ih2 =>
      intro vL2_0 vL2_1 H locs ls hP hD hS hl h
      have h := wq2_s h
      unfold B_X1_dropMark_2 at h
      refine lv_iload_n hx hb dX1_dropMark_2 rfl (lv_at hl 1 rfl) ?_
      refine lv_aload_n hx hb dX1_dropMark_3 rfl (lv_at hl 0 rfl) ?_
      refine va_get (D := G) (ci := 1) (v := .int t_size) (C := RX1) (T := TX1) (N := 5) hx hb hts hinX1 hown hK hP 0 rfl rfl 1 (by decide) (hta _ mw_31) (fun _ h9 => h9) rfl dX1_dropMark_4 ?_
      refine lv_iconst (v := (1 : Int32)) hx hb dX1_dropMark_7 (by decide) ?_
      refine lv_isub hx hb dX1_dropMark_8 ?_
      refine lv_icmp_ge (tgt := 30) hx hb dX1_dropMark_9 (by decide) (fun c1 => ?_) (fun c1 => ?_)
      · have h := it_p h c1
        exact tK_X1_dropMark_2_30 hx hb hr hml hts hown hlocks hK hA vL2_0 _ _ _ hP hD hS (lv_sub hl [0] rfl) h
      have h := it_n h c1
      refine lv_aload_n hx hb dX1_dropMark_12 rfl (lv_at hl 0 rfl) ?_
      refine lv_iload_n hx hb dX1_dropMark_13 rfl (lv_at hl 1 rfl) ?_
      refine lv_aload_n hx hb dX1_dropMark_14 rfl (lv_at hl 0 rfl) ?_
      refine lv_iload_n hx hb dX1_dropMark_15 rfl (lv_at hl 1 rfl) ?_
      refine lv_iconst (v := (1 : Int32)) hx hb dX1_dropMark_16 (by decide) ?_
      refine lv_iadd hx hb dX1_dropMark_17 ?_
      obtain ⟨x2, hx2, h⟩ := bd_e h
      try dsimp only at h
      refine k_ViU (n := 1) (As := [.int (vL2_1 + (1 : Int32))]) (rest := [.int vL2_1, .ref h_t]) hx hb hml hown hts (c_X1_powerAt l G cI cJ cD cH H.size h_t h_t_powers t_genus t_size t_limit t_tree vL2_0 (vL2_1 + (1 : Int32)) x2 hx2) gX1_dropMark_X1_powerAt rfl rfl rfl (by decide +kernel) ⟨by first | exact Nat.le_of_ble_eq_true rfl | (simp only [headSpec]; omega), by first | exact Nat.le_of_ble_eq_true rfl | (simp only [headSpec]; omega)⟩ hK hP hD hS hA [0, 1] (by decide) rfl (ci := 1) rfl rfl rfl rfl rfl hl.1 (Nat.le_of_ble_eq_true rfl) dX1_dropMark_18 ⟨Nat.zero_le _, Nat.zero_le _⟩ (fun hp2 H locs hP hS => ?_)
      obtain ⟨x3, hx3, h⟩ := bd_e h
      try dsimp only at h
      refine k_VvM (n := 2) (As := [.int vL2_1, .int x2]) (rest := []) hx hb hml hown hts (c_X1_setPower l G cI cJ cD cH H.size h_t h_t_powers t_genus t_size t_limit t_tree vL2_0 vL2_1 x2 x3 hx3) gX1_dropMark_X1_setPower rfl rfl rfl (by decide +kernel) ⟨by first | exact Nat.le_of_ble_eq_true rfl | (simp only [headSpec]; omega), by first | exact Nat.le_of_ble_eq_true rfl | (simp only [headSpec]; omega)⟩ hK hP hD hS hA [0, 1] (by decide) rfl rfl (ci := 1) rfl rfl rfl rfl rfl hl.1 (Nat.le_of_ble_eq_true rfl) dX1_dropMark_21 ⟨Nat.zero_le _, Nat.zero_le _⟩ [(h_t, .inr (1, [.int t_genus, .int t_size, .ref h_t_powers, .int t_limit, .long t_tree])), (h_t_powers, .inl (cI, 8, .inl x3))] [1, 2] 2 (by decide +kernel) rfl rfl rfl (fun hp3 H locs hP hD hS => ?_)
      refine lv_iinc (v := (vL2_1 + (1 : Int32))) (lv' := [(2, .int (vL2_1 + (1 : Int32))), (0, .ref h_t)]) hx hb dX1_dropMark_24 hl (k := 1) rfl (by first | rfl | decide) (by decide) rfl (fun ls hl => ?_)
      refine lv_goto (tgt := 2) hx hb dX1_dropMark_27 (by decide) ?_
      exact ih2 x3 (vL2_1 + (1 : Int32)) _ _ _ hP hD hS (lv_sub hl [1, 0] rfl) h
  exact hL2 FU a_t_powers p0 _ _ _ hP hD hS (lv_sub hl [1, 0] rfl) h

/-! X1_swap -/
set_option maxHeartbeats 4000000 in
set_option maxRecDepth 100000 in
theorem c_X1_swap (l : Launch) (G : va_G) (cI cJ cD cH : ClassId) (sz : Nat) (h_t : Nat) (h_t_powers : Nat) (t_genus : Int32) (t_size : Int32) (t_limit : Int32) (t_tree : Int64) (a_t_powers : Nat → Int32) (p0 : Int32) (p1 : Int32) (w0 : Nat → Int32) (hF : F_X1_swap a_t_powers p0 p1 = some w0) : Met l yX1_swap wsX1_swap ({ frames := 1, cells := 0, slots := 0, locals := 22 }) (k_pre G (k_T cI cJ cD cH) [(h_t, .inr (1, [.int t_genus, .int t_size, .ref h_t_powers, .int t_limit, .long t_tree])), (h_t_powers, .inl (cI, 8, .inl a_t_powers))] sz [.ref h_t, .int p0, .int p1]) (va_Qv (fun (_ : Unit) => True) (fun _ t => va_P G vwCl [(h_t, .inr (1, [.int t_genus, .int t_size, .ref h_t_powers, .int t_limit, .long t_tree])), (h_t_powers, .inl (cI, 8, .inl w0))] t.heap) (va_A [(h_t, .inr (1, [.int t_genus, .int t_size, .ref h_t_powers, .int t_limit, .long t_tree])), (h_t_powers, .inl (cI, 8, .inl a_t_powers))] sz)) 0 0 (va_A [(h_t, .inr (1, [.int t_genus, .int t_size, .ref h_t_powers, .int t_limit, .long t_tree])), (h_t_powers, .inl (cI, 8, .inl a_t_powers))] sz) := by
  refine Met.ofW (cc := cX1_swap) (maxL := 4) (ret := none) (by decide) rfl ?_
  intro p e s m args below meth c s₁ B hml hv
  obtain ⟨rfl, hsz, hP, hK, hD0⟩ := hv
  have hx := B.exec
  have hb := B.bytes
  have hr := B.returns
  have hts := atoms_spec (ws := wsX1_swap) B.pre
  have hta : ∀ w ∈ wA, w.before ([.ref h_t, .int p0, .int p1] : List Value).toArray s = true := hta_of hts
  have hown : s.vm.findClass RX1 = some m.cls := findClass_of_methodNamed B.named
  have hlocks := B.notSynchronized
  subst hsz
  have hD := hD0.self (sz := s.heap.size)
  generalize hAe : va_A [(h_t, .inr (1, [.int t_genus, .int t_size, .ref h_t_powers, .int t_limit, .long t_tree])), (h_t_powers, .inl (cI, 8, .inl a_t_powers))] s.heap.size = A at hD ⊢
  have hA : ∀ q : Nat, s.heap.size ≤ q → A q := fun q h => by rw [← hAe]; exact Or.inr h
  have hS : va_S A s.heap s.heap [] := va_S.rf
  have hl := lv_entry ([.ref h_t, .int p0, .int p1]) (n := 4) (Nat.le_of_ble_eq_true rfl)
  rw [lg_entry_eq]
  generalize (lg_sl ([.ref h_t, .int p0, .int p1]) ++ List.replicate (4 - (lg_sl ([.ref h_t, .int p0, .int p1])).length) Slot.unset).toArray = ls at hl ⊢
  have hl : lv_has ls 4 [(0, .ref h_t), (1, .int p0), (2, .int p1)] := hl
  have h := hF
  unfold F_X1_swap at h
  refine lv_aload_n hx hb dX1_swap_0 rfl (lv_at hl 0 rfl) ?_
  refine lv_iload_n hx hb dX1_swap_1 rfl (lv_at hl 1 rfl) ?_
  obtain ⟨x1, hx1, h⟩ := bd_e h
  try dsimp only at h
  refine k_ViU (n := 1) (As := [.int p0]) (rest := []) hx hb hml hown hts (c_X1_powerAt l G cI cJ cD cH s.heap.size h_t h_t_powers t_genus t_size t_limit t_tree a_t_powers p0 x1 hx1) gX1_swap_X1_powerAt rfl rfl rfl (by decide +kernel) ⟨by first | exact Nat.le_of_ble_eq_true rfl | (simp only [headSpec]; omega), by first | exact Nat.le_of_ble_eq_true rfl | (simp only [headSpec]; omega)⟩ hK hP hD hS hA [0, 1] (by decide) rfl (ci := 1) rfl rfl rfl rfl rfl hl.1 (Nat.le_of_ble_eq_true rfl) dX1_swap_2 ⟨Nat.zero_le _, Nat.zero_le _⟩ (fun hp1 H locs hP hS => ?_)
  refine lv_istore_n (lv' := [(3, .int x1), (0, .ref h_t), (1, .int p0), (2, .int p1)]) hx hb dX1_swap_5 rfl hl (by decide) rfl (fun ls hl => ?_)
  refine lv_aload_n hx hb dX1_swap_6 rfl (lv_at hl 1 rfl) ?_
  refine lv_iload_n hx hb dX1_swap_7 rfl (lv_at hl 2 rfl) ?_
  refine lv_aload_n hx hb dX1_swap_8 rfl (lv_at hl 1 rfl) ?_
  refine lv_iload_n hx hb dX1_swap_9 rfl (lv_at hl 3 rfl) ?_
  obtain ⟨x2, hx2, h⟩ := bd_e h
  try dsimp only at h
  refine k_ViU (n := 1) (As := [.int p1]) (rest := [.int p0, .ref h_t]) hx hb hml hown hts (c_X1_powerAt l G cI cJ cD cH H.size h_t h_t_powers t_genus t_size t_limit t_tree a_t_powers p1 x2 hx2) gX1_swap_X1_powerAt rfl rfl rfl (by decide +kernel) ⟨by first | exact Nat.le_of_ble_eq_true rfl | (simp only [headSpec]; omega), by first | exact Nat.le_of_ble_eq_true rfl | (simp only [headSpec]; omega)⟩ hK hP hD hS hA [0, 1] (by decide) rfl (ci := 1) rfl rfl rfl rfl rfl hl.1 (Nat.le_of_ble_eq_true rfl) dX1_swap_10 ⟨Nat.zero_le _, Nat.zero_le _⟩ (fun hp2 H locs hP hS => ?_)
  obtain ⟨x3, hx3, h⟩ := bd_e h
  try dsimp only at h
  refine k_VvM (n := 2) (As := [.int p0, .int x2]) (rest := []) hx hb hml hown hts (c_X1_setPower l G cI cJ cD cH H.size h_t h_t_powers t_genus t_size t_limit t_tree a_t_powers p0 x2 x3 hx3) gX1_swap_X1_setPower rfl rfl rfl (by decide +kernel) ⟨by first | exact Nat.le_of_ble_eq_true rfl | (simp only [headSpec]; omega), by first | exact Nat.le_of_ble_eq_true rfl | (simp only [headSpec]; omega)⟩ hK hP hD hS hA [0, 1] (by decide) rfl rfl (ci := 1) rfl rfl rfl rfl rfl hl.1 (Nat.le_of_ble_eq_true rfl) dX1_swap_13 ⟨Nat.zero_le _, Nat.zero_le _⟩ [(h_t, .inr (1, [.int t_genus, .int t_size, .ref h_t_powers, .int t_limit, .long t_tree])), (h_t_powers, .inl (cI, 8, .inl x3))] [1, 2] 2 (by decide +kernel) rfl rfl rfl (fun hp3 H locs hP hD hS => ?_)
  refine lv_aload_n hx hb dX1_swap_16 rfl (lv_at hl 1 rfl) ?_
  refine lv_iload_n hx hb dX1_swap_17 rfl (lv_at hl 3 rfl) ?_
  refine lv_iload_n hx hb dX1_swap_18 rfl (lv_at hl 0 rfl) ?_
  obtain ⟨x4, hx4, h⟩ := bd_e h
  try dsimp only at h
  refine k_VvM (n := 2) (As := [.int p1, .int x1]) (rest := []) hx hb hml hown hts (c_X1_setPower l G cI cJ cD cH H.size h_t h_t_powers t_genus t_size t_limit t_tree x3 p1 x1 x4 hx4) gX1_swap_X1_setPower rfl rfl rfl (by decide +kernel) ⟨by first | exact Nat.le_of_ble_eq_true rfl | (simp only [headSpec]; omega), by first | exact Nat.le_of_ble_eq_true rfl | (simp only [headSpec]; omega)⟩ hK hP hD hS hA [0, 1] (by decide) rfl rfl (ci := 1) rfl rfl rfl rfl rfl hl.1 (Nat.le_of_ble_eq_true rfl) dX1_swap_19 ⟨Nat.zero_le _, Nat.zero_le _⟩ [(h_t, .inr (1, [.int t_genus, .int t_size, .ref h_t_powers, .int t_limit, .long t_tree])), (h_t_powers, .inl (cI, 8, .inl x4))] [1, 2] 2 (by decide +kernel) rfl rfl rfl (fun hp4 H locs hP hD hS => ?_)
  have h9 := Option.some.inj h
  have e9 : x4 = w0 := congrArg (fun z9 => z9) h9
  rw [← e9]
  exact k_vret hx hb hr hlocks hP hS dX1_swap_22

/-! X1_sortRising -/
set_option maxHeartbeats 4000000 in
set_option maxRecDepth 100000 in
theorem c_X1_sortRising (l : Launch) (G : va_G) (cI cJ cD cH : ClassId) (sz : Nat) (h_t : Nat) (h_t_powers : Nat) (t_genus : Int32) (t_size : Int32) (t_limit : Int32) (t_tree : Int64) (a_t_powers : Nat → Int32) (w0 : Nat → Int32) (hF : F_X1_sortRising t_size a_t_powers = some w0) : Met l yX1_sortRising wsX1_sortRising ({ frames := 2, cells := 0, slots := 0, locals := 45 }) (k_pre G (k_T cI cJ cD cH) [(h_t, .inr (1, [.int t_genus, .int t_size, .ref h_t_powers, .int t_limit, .long t_tree])), (h_t_powers, .inl (cI, 8, .inl a_t_powers))] sz [.ref h_t]) (va_Qv (fun (_ : Unit) => True) (fun _ t => va_P G vwCl [(h_t, .inr (1, [.int t_genus, .int t_size, .ref h_t_powers, .int t_limit, .long t_tree])), (h_t_powers, .inl (cI, 8, .inl w0))] t.heap) (va_A [(h_t, .inr (1, [.int t_genus, .int t_size, .ref h_t_powers, .int t_limit, .long t_tree])), (h_t_powers, .inl (cI, 8, .inl a_t_powers))] sz)) 0 0 (va_A [(h_t, .inr (1, [.int t_genus, .int t_size, .ref h_t_powers, .int t_limit, .long t_tree])), (h_t_powers, .inl (cI, 8, .inl a_t_powers))] sz) := by
  refine Met.ofW (cc := cX1_sortRising) (maxL := 3) (ret := none) (by decide) rfl ?_
  intro p e s m args below meth c s₁ B hml hv
  obtain ⟨rfl, hsz, hP, hK, hD0⟩ := hv
  have hx := B.exec
  have hb := B.bytes
  have hr := B.returns
  have hts := atoms_spec (ws := wsX1_sortRising) B.pre
  have hta : ∀ w ∈ wA, w.before ([.ref h_t] : List Value).toArray s = true := hta_of hts
  have hown : s.vm.findClass RX1 = some m.cls := findClass_of_methodNamed B.named
  have hlocks := B.notSynchronized
  subst hsz
  have hD := hD0.self (sz := s.heap.size)
  generalize hAe : va_A [(h_t, .inr (1, [.int t_genus, .int t_size, .ref h_t_powers, .int t_limit, .long t_tree])), (h_t_powers, .inl (cI, 8, .inl a_t_powers))] s.heap.size = A at hD ⊢
  have hA : ∀ q : Nat, s.heap.size ≤ q → A q := fun q h => by rw [← hAe]; exact Or.inr h
  have hS : va_S A s.heap s.heap [] := va_S.rf
  have hl := lv_entry ([.ref h_t]) (n := 3) (Nat.le_of_ble_eq_true rfl)
  rw [lg_entry_eq]
  generalize (lg_sl ([.ref h_t]) ++ List.replicate (3 - (lg_sl ([.ref h_t])).length) Slot.unset).toArray = ls at hl ⊢
  have hl : lv_has ls 3 [(0, .ref h_t)] := hl
  have hinX1 : ∀ w ∈ wsX10, w ∈ wsX1_sortRising := hin_of in_X1
  have h := hF
  unfold F_X1_sortRising at h
  refine lv_aload_n hx hb dX1_sortRising_0 rfl (lv_at hl 0 rfl) ?_
  refine va_get (D := G) (ci := 1) (v := .int t_size) (C := RX1) (T := TX1) (N := 5) hx hb hts hinX1 hown hK hP 0 rfl rfl 1 (by decide) (hta _ mw_31) (fun _ h9 => h9) rfl dX1_sortRising_1 ?_
  refine lv_iconst (v := (1 : Int32)) hx hb dX1_sortRising_4 (by decide) ?_
  refine lv_isub hx hb dX1_sortRising_5 ?_
  refine lv_istore_n (lv' := [(1, .int (t_size - (1 : Int32))), (0, .ref h_t)]) hx hb dX1_sortRising_6 rfl hl (by decide) rfl (fun ls hl => ?_)
  have hK_X1_sortRising_7_53 : ∀  (vK7_53_0 : Nat → Int32) (H : Heap) (locs : List Loc) (ls : Array Slot), va_P G vwCl [(h_t, .inr (1, [.int t_genus, .int t_size, .ref h_t_powers, .int t_limit, .long t_tree])), (h_t_powers, .inl (cI, 8, .inl vK7_53_0))] H → va_D A [(h_t, .inr (1, [.int t_genus, .int t_size, .ref h_t_powers, .int t_limit, .long t_tree])), (h_t_powers, .inl (cI, 8, .inl vK7_53_0))] → va_S A s.heap H locs → lv_has ls 3 [] → K_X1_sortRising_7_53 vK7_53_0 = some w0 → W p l e (headSpec wsX1_sortRising ({ frames := 2, cells := 0, slots := 0, locals := 45 })).room s m ([.ref h_t] : List Value).toArray below meth c H locs 0 0 (MQ below (va_Qv (fun (_ : Unit) => True) (fun _ t => va_P G vwCl [(h_t, .inr (1, [.int t_genus, .int t_size, .ref h_t_powers, .int t_limit, .long t_tree])), (h_t_powers, .inl (cI, 8, .inl w0))] t.heap) A) ([.ref h_t] : List Value).toArray s 0 0 A) (F0 m 53 ls []) := by
    intro vK7_53_0 H locs ls hP hD hS hl h
    unfold K_X1_sortRising_7_53 at h
    have h9 := Option.some.inj h
    have e9 : vK7_53_0 = w0 := congrArg (fun z9 => z9) h9
    rw [← e9]
    exact k_vret hx hb hr hlocks hP hS dX1_sortRising_53
  have hL7 : ∀ (n7 : Nat) (vL7_0 : Nat → Int32) (vL7_1 : Int32) (H : Heap) (locs : List Loc) (ls : Array Slot), va_P G vwCl [(h_t, .inr (1, [.int t_genus, .int t_size, .ref h_t_powers, .int t_limit, .long t_tree])), (h_t_powers, .inl (cI, 8, .inl vL7_0))] H → va_D A [(h_t, .inr (1, [.int t_genus, .int t_size, .ref h_t_powers, .int t_limit, .long t_tree])), (h_t_powers, .inl (cI, 8, .inl vL7_0))] → va_S A s.heap H locs → lv_has ls 3 [(0, .ref h_t), (1, .int vL7_1)] → wq2 (B_X1_sortRising_7 K_X1_sortRising_7_53) n7 vL7_0 vL7_1 = some w0 → W p l e (headSpec wsX1_sortRising ({ frames := 2, cells := 0, slots := 0, locals := 45 })).room s m ([.ref h_t] : List Value).toArray below meth c H locs 0 0 (MQ below (va_Qv (fun (_ : Unit) => True) (fun _ t => va_P G vwCl [(h_t, .inr (1, [.int t_genus, .int t_size, .ref h_t_powers, .int t_limit, .long t_tree])), (h_t_powers, .inl (cI, 8, .inl w0))] t.heap) A) ([.ref h_t] : List Value).toArray s 0 0 A) (F0 m 7 ls []) := by
    intro n7
    induction n7 with
    | zero => intro vL7_0 vL7_1 H locs ls hP hD hS hl h; exact wq2_0 h
    | succ n7 ih7 =>
      intro vL7_0 vL7_1 H locs ls hP hD hS hl h
      have h := wq2_s h
      unfold B_X1_sortRising_7 at h
      refine lv_iload_n hx hb dX1_sortRising_7 rfl (lv_at hl 1 rfl) ?_
      refine lv_if_le (tgt := 53) hx hb dX1_sortRising_8 (by decide) (fun c1 => ?_) (fun c1 => ?_)
      · have h := it_p h c1
        exact hK_X1_sortRising_7_53 vL7_0 _ _ _ hP hD hS (lv_sub hl [] rfl) h
      have h := it_n h c1
      refine lv_iconst (v := (0 : Int32)) hx hb dX1_sortRising_11 (by decide) ?_
      refine lv_istore_n (lv' := [(2, .int (0 : Int32)), (0, .ref h_t), (1, .int vL7_1)]) hx hb dX1_sortRising_12 rfl hl (by decide) rfl (fun ls hl => ?_)
      have hK_X1_sortRising_13_47 : ∀  (vK13_47_0 : Nat → Int32) (H : Heap) (locs : List Loc) (ls : Array Slot), va_P G vwCl [(h_t, .inr (1, [.int t_genus, .int t_size, .ref h_t_powers, .int t_limit, .long t_tree])), (h_t_powers, .inl (cI, 8, .inl vK13_47_0))] H → va_D A [(h_t, .inr (1, [.int t_genus, .int t_size, .ref h_t_powers, .int t_limit, .long t_tree])), (h_t_powers, .inl (cI, 8, .inl vK13_47_0))] → va_S A s.heap H locs → lv_has ls 3 [(0, .ref h_t), (1, .int vL7_1)] → K_X1_sortRising_13_47 vL7_1 (wq2 (B_X1_sortRising_7 K_X1_sortRising_7_53) n7) vK13_47_0 = some w0 → W p l e (headSpec wsX1_sortRising ({ frames := 2, cells := 0, slots := 0, locals := 45 })).room s m ([.ref h_t] : List Value).toArray below meth c H locs 0 0 (MQ below (va_Qv (fun (_ : Unit) => True) (fun _ t => va_P G vwCl [(h_t, .inr (1, [.int t_genus, .int t_size, .ref h_t_powers, .int t_limit, .long t_tree])), (h_t_powers, .inl (cI, 8, .inl w0))] t.heap) A) ([.ref h_t] : List Value).toArray s 0 0 A) (F0 m 47 ls []) := by
        intro vK13_47_0 H locs ls hP hD hS hl h
        unfold K_X1_sortRising_13_47 at h
        refine lv_iinc (v := (vL7_1 + (-1 : Int32))) (lv' := [(1, .int (vL7_1 + (-1 : Int32))), (0, .ref h_t)]) hx hb dX1_sortRising_47 hl (k := 1) rfl (by first | rfl | decide) (by decide) rfl (fun ls hl => ?_)
        refine lv_goto (tgt := 7) hx hb dX1_sortRising_50 (by decide) ?_
        exact ih7 vK13_47_0 (vL7_1 + (-1 : Int32)) _ _ _ hP hD hS (lv_sub hl [1, 0] rfl) h
      have hL13 : ∀ (n13 : Nat) (vL13_0 : Nat → Int32) (vL13_1 : Int32) (H : Heap) (locs : List Loc) (ls : Array Slot), va_P G vwCl [(h_t, .inr (1, [.int t_genus, .int t_size, .ref h_t_powers, .int t_limit, .long t_tree])), (h_t_powers, .inl (cI, 8, .inl vL13_0))] H → va_D A [(h_t, .inr (1, [.int t_genus, .int t_size, .ref h_t_powers, .int t_limit, .long t_tree])), (h_t_powers, .inl (cI, 8, .inl vL13_0))] → va_S A s.heap H locs → lv_has ls 3 [(0, .ref h_t), (1, .int vL7_1), (2, .int vL13_1)] → wq2 (B_X1_sortRising_13 vL7_1 (K_X1_sortRising_13_47 vL7_1 (wq2 (B_X1_sortRising_7 K_X1_sortRising_7_53) n7))) n13 vL13_0 vL13_1 = some w0 → W p l e (headSpec wsX1_sortRising ({ frames := 2, cells := 0, slots := 0, locals := 45 })).room s m ([.ref h_t] : List Value).toArray below meth c H locs 0 0 (MQ below (va_Qv (fun (_ : Unit) => True) (fun _ t => va_P G vwCl [(h_t, .inr (1, [.int t_genus, .int t_size, .ref h_t_powers, .int t_limit, .long t_tree])), (h_t_powers, .inl (cI, 8, .inl w0))] t.heap) A) ([.ref h_t] : List Value).toArray s 0 0 A) (F0 m 13 ls []) := by
        intro n13
        induction n13 with
        | zero => intro vL13_0 vL13_1 H locs ls hP hD hS hl h; exact wq2_0 h
        | succ n13 ih13 =>
          intro vL13_0 vL13_1 H locs ls hP hD hS hl h
          have h := wq2_s h
          unfold B_X1_sortRising_13 at h
          refine lv_iload_n hx hb dX1_sortRising_13 rfl (lv_at hl 2 rfl) ?_
          refine lv_iload_n hx hb dX1_sortRising_14 rfl (lv_at hl 1 rfl) ?_
          refine lv_icmp_ge (tgt := 47) hx hb dX1_sortRising_15 (by decide) (fun c2 => ?_) (fun c2 => ?_)
          · have h := it_p h c2
            exact hK_X1_sortRising_13_47 vL13_0 _ _ _ hP hD hS (lv_sub hl [0, 1] rfl) h
          have h := it_n h c2
          refine lv_aload_n hx hb dX1_sortRising_18 rfl (lv_at hl 0 rfl) ?_
          refine lv_iload_n hx hb dX1_sortRising_19 rfl (lv_at hl 2 rfl) ?_
          obtain ⟨x3, hx3, h⟩ := bd_e h
          try dsimp only at h
          refine k_ViU (n := 1) (As := [.int vL13_1]) (rest := []) hx hb hml hown hts (c_X1_powerAt l G cI cJ cD cH H.size h_t h_t_powers t_genus t_size t_limit t_tree vL13_0 vL13_1 x3 hx3) gX1_sortRising_X1_powerAt rfl rfl rfl (by decide +kernel) ⟨by first | exact Nat.le_of_ble_eq_true rfl | (simp only [headSpec]; omega), by first | exact Nat.le_of_ble_eq_true rfl | (simp only [headSpec]; omega)⟩ hK hP hD hS hA [0, 1] (by decide) rfl (ci := 1) rfl rfl rfl rfl rfl hl.1 (Nat.le_of_ble_eq_true rfl) dX1_sortRising_20 ⟨Nat.zero_le _, Nat.zero_le _⟩ (fun hp3 H locs hP hS => ?_)
          refine lv_aload_n hx hb dX1_sortRising_23 rfl (lv_at hl 0 rfl) ?_
          refine lv_iload_n hx hb dX1_sortRising_24 rfl (lv_at hl 2 rfl) ?_
          refine lv_iconst (v := (1 : Int32)) hx hb dX1_sortRising_25 (by decide) ?_
          refine lv_iadd hx hb dX1_sortRising_26 ?_
          obtain ⟨x4, hx4, h⟩ := bd_e h
          try dsimp only at h
          refine k_ViU (n := 1) (As := [.int (vL13_1 + (1 : Int32))]) (rest := [.int x3]) hx hb hml hown hts (c_X1_powerAt l G cI cJ cD cH H.size h_t h_t_powers t_genus t_size t_limit t_tree vL13_0 (vL13_1 + (1 : Int32)) x4 hx4) gX1_sortRising_X1_powerAt rfl rfl rfl (by decide +kernel) ⟨by first | exact Nat.le_of_ble_eq_true rfl | (simp only [headSpec]; omega), by first | exact Nat.le_of_ble_eq_true rfl | (simp only [headSpec]; omega)⟩ hK hP hD hS hA [0, 1] (by decide) rfl (ci := 1) rfl rfl rfl rfl rfl hl.1 (Nat.le_of_ble_eq_true rfl) dX1_sortRising_27 ⟨Nat.zero_le _, Nat.zero_le _⟩ (fun hp4 H locs hP hS => ?_)
          refine lv_icmp_le (tgt := 41) hx hb dX1_sortRising_30 (by decide) (fun c5 => ?_) (fun c5 => ?_)
          · have h := it_p h c5
            refine lv_iinc (v := (vL13_1 + (1 : Int32))) (lv' := [(2, .int (vL13_1 + (1 : Int32))), (0, .ref h_t), (1, .int vL7_1)]) hx hb dX1_sortRising_41 hl (k := 2) rfl (by first | rfl | decide) (by decide) rfl (fun ls hl => ?_)
            refine lv_goto (tgt := 13) hx hb dX1_sortRising_44 (by decide) ?_
            exact ih13 vL13_0 (vL13_1 + (1 : Int32)) _ _ _ hP hD hS (lv_sub hl [1, 2, 0] rfl) h
          have h := it_n h c5
          refine lv_aload_n hx hb dX1_sortRising_33 rfl (lv_at hl 0 rfl) ?_
          refine lv_iload_n hx hb dX1_sortRising_34 rfl (lv_at hl 2 rfl) ?_
          refine lv_iload_n hx hb dX1_sortRising_35 rfl (lv_at hl 2 rfl) ?_
          refine lv_iconst (v := (1 : Int32)) hx hb dX1_sortRising_36 (by decide) ?_
          refine lv_iadd hx hb dX1_sortRising_37 ?_
          obtain ⟨x6, hx6, h⟩ := bd_e h
          try dsimp only at h
          refine k_VvM (n := 2) (As := [.int vL13_1, .int (vL13_1 + (1 : Int32))]) (rest := []) hx hb hml hown hts (c_X1_swap l G cI cJ cD cH H.size h_t h_t_powers t_genus t_size t_limit t_tree vL13_0 vL13_1 (vL13_1 + (1 : Int32)) x6 hx6) gX1_sortRising_X1_swap rfl rfl rfl (by decide +kernel) ⟨by first | exact Nat.le_of_ble_eq_true rfl | (simp only [headSpec]; omega), by first | exact Nat.le_of_ble_eq_true rfl | (simp only [headSpec]; omega)⟩ hK hP hD hS hA [0, 1] (by decide) rfl rfl (ci := 1) rfl rfl rfl rfl rfl hl.1 (Nat.le_of_ble_eq_true rfl) dX1_sortRising_38 ⟨Nat.zero_le _, Nat.zero_le _⟩ [(h_t, .inr (1, [.int t_genus, .int t_size, .ref h_t_powers, .int t_limit, .long t_tree])), (h_t_powers, .inl (cI, 8, .inl x6))] [1, 2] 2 (by decide +kernel) rfl rfl rfl (fun hp6 H locs hP hD hS => ?_)
          refine lv_iinc (v := (vL13_1 + (1 : Int32))) (lv' := [(2, .int (vL13_1 + (1 : Int32))), (0, .ref h_t), (1, .int vL7_1)]) hx hb dX1_sortRising_41 hl (k := 2) rfl (by first | rfl | decide) (by decide) rfl (fun ls hl => ?_)
          refine lv_goto (tgt := 13) hx hb dX1_sortRising_44 (by decide) ?_
          exact ih13 x6 (vL13_1 + (1 : Int32)) _ _ _ hP hD hS (lv_sub hl [1, 2, 0] rfl) h
      exact hL13 FU vL7_0 (0 : Int32) _ _ _ hP hD hS (lv_sub hl [1, 2, 0] rfl) h
  exact hL7 FU a_t_powers (t_size - (1 : Int32)) _ _ _ hP hD hS (lv_sub hl [1, 0] rfl) h

/-! X1_turnAbout -/
set_option maxHeartbeats 4000000 in
set_option maxRecDepth 100000 in
theorem c_X1_turnAbout (l : Launch) (G : va_G) (cI cJ cD cH : ClassId) (sz : Nat) (h_t : Nat) (h_t_powers : Nat) (t_genus : Int32) (t_size : Int32) (t_limit : Int32) (t_tree : Int64) (a_t_powers : Nat → Int32) (w0 : Nat → Int32) (hF : F_X1_turnAbout t_size a_t_powers = some w0) : Met l yX1_turnAbout wsX1_turnAbout ({ frames := 2, cells := 0, slots := 0, locals := 45 }) (k_pre G (k_T cI cJ cD cH) [(h_t, .inr (1, [.int t_genus, .int t_size, .ref h_t_powers, .int t_limit, .long t_tree])), (h_t_powers, .inl (cI, 8, .inl a_t_powers))] sz [.ref h_t]) (va_Qv (fun (_ : Unit) => True) (fun _ t => va_P G vwCl [(h_t, .inr (1, [.int t_genus, .int t_size, .ref h_t_powers, .int t_limit, .long t_tree])), (h_t_powers, .inl (cI, 8, .inl w0))] t.heap) (va_A [(h_t, .inr (1, [.int t_genus, .int t_size, .ref h_t_powers, .int t_limit, .long t_tree])), (h_t_powers, .inl (cI, 8, .inl a_t_powers))] sz)) 0 0 (va_A [(h_t, .inr (1, [.int t_genus, .int t_size, .ref h_t_powers, .int t_limit, .long t_tree])), (h_t_powers, .inl (cI, 8, .inl a_t_powers))] sz) := by
  refine Met.ofW (cc := cX1_turnAbout) (maxL := 2) (ret := none) (by decide) rfl ?_
  intro p e s m args below meth c s₁ B hml hv
  obtain ⟨rfl, hsz, hP, hK, hD0⟩ := hv
  have hx := B.exec
  have hb := B.bytes
  have hr := B.returns
  have hts := atoms_spec (ws := wsX1_turnAbout) B.pre
  have hta : ∀ w ∈ wA, w.before ([.ref h_t] : List Value).toArray s = true := hta_of hts
  have hown : s.vm.findClass RX1 = some m.cls := findClass_of_methodNamed B.named
  have hlocks := B.notSynchronized
  subst hsz
  have hD := hD0.self (sz := s.heap.size)
  generalize hAe : va_A [(h_t, .inr (1, [.int t_genus, .int t_size, .ref h_t_powers, .int t_limit, .long t_tree])), (h_t_powers, .inl (cI, 8, .inl a_t_powers))] s.heap.size = A at hD ⊢
  have hA : ∀ q : Nat, s.heap.size ≤ q → A q := fun q h => by rw [← hAe]; exact Or.inr h
  have hS : va_S A s.heap s.heap [] := va_S.rf
  have hl := lv_entry ([.ref h_t]) (n := 2) (Nat.le_of_ble_eq_true rfl)
  rw [lg_entry_eq]
  generalize (lg_sl ([.ref h_t]) ++ List.replicate (2 - (lg_sl ([.ref h_t])).length) Slot.unset).toArray = ls at hl ⊢
  have hl : lv_has ls 2 [(0, .ref h_t)] := hl
  have hinX1 : ∀ w ∈ wsX10, w ∈ wsX1_turnAbout := hin_of in_X1
  have h := hF
  unfold F_X1_turnAbout at h
  refine lv_iconst (v := (0 : Int32)) hx hb dX1_turnAbout_0 (by decide) ?_
  refine lv_istore_n (lv' := [(1, .int (0 : Int32)), (0, .ref h_t)]) hx hb dX1_turnAbout_1 rfl hl (by decide) rfl (fun ls hl => ?_)
  have hK_X1_turnAbout_2_31 : ∀  (vK2_31_0 : Nat → Int32) (H : Heap) (locs : List Loc) (ls : Array Slot), va_P G vwCl [(h_t, .inr (1, [.int t_genus, .int t_size, .ref h_t_powers, .int t_limit, .long t_tree])), (h_t_powers, .inl (cI, 8, .inl vK2_31_0))] H → va_D A [(h_t, .inr (1, [.int t_genus, .int t_size, .ref h_t_powers, .int t_limit, .long t_tree])), (h_t_powers, .inl (cI, 8, .inl vK2_31_0))] → va_S A s.heap H locs → lv_has ls 2 [] → K_X1_turnAbout_2_31 vK2_31_0 = some w0 → W p l e (headSpec wsX1_turnAbout ({ frames := 2, cells := 0, slots := 0, locals := 45 })).room s m ([.ref h_t] : List Value).toArray below meth c H locs 0 0 (MQ below (va_Qv (fun (_ : Unit) => True) (fun _ t => va_P G vwCl [(h_t, .inr (1, [.int t_genus, .int t_size, .ref h_t_powers, .int t_limit, .long t_tree])), (h_t_powers, .inl (cI, 8, .inl w0))] t.heap) A) ([.ref h_t] : List Value).toArray s 0 0 A) (F0 m 31 ls []) := by
    intro vK2_31_0 H locs ls hP hD hS hl h
    unfold K_X1_turnAbout_2_31 at h
    have h9 := Option.some.inj h
    have e9 : vK2_31_0 = w0 := congrArg (fun z9 => z9) h9
    rw [← e9]
    exact k_vret hx hb hr hlocks hP hS dX1_turnAbout_31
  have hL2 : ∀ (n2 : Nat) (vL2_0 : Nat → Int32) (vL2_1 : Int32) (H : Heap) (locs : List Loc) (ls : Array Slot), va_P G vwCl [(h_t, .inr (1, [.int t_genus, .int t_size, .ref h_t_powers, .int t_limit, .long t_tree])), (h_t_powers, .inl (cI, 8, .inl vL2_0))] H → va_D A [(h_t, .inr (1, [.int t_genus, .int t_size, .ref h_t_powers, .int t_limit, .long t_tree])), (h_t_powers, .inl (cI, 8, .inl vL2_0))] → va_S A s.heap H locs → lv_has ls 2 [(0, .ref h_t), (1, .int vL2_1)] → wq2 (B_X1_turnAbout_2 t_size K_X1_turnAbout_2_31) n2 vL2_0 vL2_1 = some w0 → W p l e (headSpec wsX1_turnAbout ({ frames := 2, cells := 0, slots := 0, locals := 45 })).room s m ([.ref h_t] : List Value).toArray below meth c H locs 0 0 (MQ below (va_Qv (fun (_ : Unit) => True) (fun _ t => va_P G vwCl [(h_t, .inr (1, [.int t_genus, .int t_size, .ref h_t_powers, .int t_limit, .long t_tree])), (h_t_powers, .inl (cI, 8, .inl w0))] t.heap) A) ([.ref h_t] : List Value).toArray s 0 0 A) (F0 m 2 ls []) := by
    intro n2
    induction n2 with
    | zero => intro vL2_0 vL2_1 H locs ls hP hD hS hl h; exact wq2_0 h
    | succ n2 ih2 =>
      intro vL2_0 vL2_1 H locs ls hP hD hS hl h
      have h := wq2_s h
      unfold B_X1_turnAbout_2 at h
      refine lv_iload_n hx hb dX1_turnAbout_2 rfl (lv_at hl 1 rfl) ?_
      refine lv_aload_n hx hb dX1_turnAbout_3 rfl (lv_at hl 0 rfl) ?_
      refine va_get (D := G) (ci := 1) (v := .int t_size) (C := RX1) (T := TX1) (N := 5) hx hb hts hinX1 hown hK hP 0 rfl rfl 1 (by decide) (hta _ mw_31) (fun _ h9 => h9) rfl dX1_turnAbout_4 ?_
      refine lv_iconst (v := (2 : Int32)) hx hb dX1_turnAbout_7 (by decide) ?_
      refine lv_idiv hx hb dX1_turnAbout_8 (by decide) ?_
      refine lv_icmp_ge (tgt := 31) hx hb dX1_turnAbout_9 (by decide) (fun c1 => ?_) (fun c1 => ?_)
      · have h := it_p h c1
        exact hK_X1_turnAbout_2_31 vL2_0 _ _ _ hP hD hS (lv_sub hl [] rfl) h
      have h := it_n h c1
      refine lv_aload_n hx hb dX1_turnAbout_12 rfl (lv_at hl 0 rfl) ?_
      refine lv_iload_n hx hb dX1_turnAbout_13 rfl (lv_at hl 1 rfl) ?_
      refine lv_aload_n hx hb dX1_turnAbout_14 rfl (lv_at hl 0 rfl) ?_
      refine va_get (D := G) (ci := 1) (v := .int t_size) (C := RX1) (T := TX1) (N := 5) hx hb hts hinX1 hown hK hP 0 rfl rfl 1 (by decide) (hta _ mw_31) (fun _ h9 => h9) rfl dX1_turnAbout_15 ?_
      refine lv_iconst (v := (1 : Int32)) hx hb dX1_turnAbout_18 (by decide) ?_
      refine lv_isub hx hb dX1_turnAbout_19 ?_
      refine lv_iload_n hx hb dX1_turnAbout_20 rfl (lv_at hl 1 rfl) ?_
      refine lv_isub hx hb dX1_turnAbout_21 ?_
      obtain ⟨x2, hx2, h⟩ := bd_e h
      try dsimp only at h
      refine k_VvM (n := 2) (As := [.int vL2_1, .int ((t_size - (1 : Int32)) - vL2_1)]) (rest := []) hx hb hml hown hts (c_X1_swap l G cI cJ cD cH H.size h_t h_t_powers t_genus t_size t_limit t_tree vL2_0 vL2_1 ((t_size - (1 : Int32)) - vL2_1) x2 hx2) gX1_turnAbout_X1_swap rfl rfl rfl (by decide +kernel) ⟨by first | exact Nat.le_of_ble_eq_true rfl | (simp only [headSpec]; omega), by first | exact Nat.le_of_ble_eq_true rfl | (simp only [headSpec]; omega)⟩ hK hP hD hS hA [0, 1] (by decide) rfl rfl (ci := 1) rfl rfl rfl rfl rfl hl.1 (Nat.le_of_ble_eq_true rfl) dX1_turnAbout_22 ⟨Nat.zero_le _, Nat.zero_le _⟩ [(h_t, .inr (1, [.int t_genus, .int t_size, .ref h_t_powers, .int t_limit, .long t_tree])), (h_t_powers, .inl (cI, 8, .inl x2))] [1, 2] 2 (by decide +kernel) rfl rfl rfl (fun hp2 H locs hP hD hS => ?_)
      refine lv_iinc (v := (vL2_1 + (1 : Int32))) (lv' := [(1, .int (vL2_1 + (1 : Int32))), (0, .ref h_t)]) hx hb dX1_turnAbout_25 hl (k := 1) rfl (by first | rfl | decide) (by decide) rfl (fun ls hl => ?_)
      refine lv_goto (tgt := 2) hx hb dX1_turnAbout_28 (by decide) ?_
      exact ih2 x2 (vL2_1 + (1 : Int32)) _ _ _ hP hD hS (lv_sub hl [1, 0] rfl) h
  exact hL2 FU a_t_powers (0 : Int32) _ _ _ hP hD hS (lv_sub hl [1, 0] rfl) h

/-! X1_putFirstLast -/
set_option maxHeartbeats 4000000 in
set_option maxRecDepth 100000 in
theorem c_X1_putFirstLast (l : Launch) (G : va_G) (cI cJ cD cH : ClassId) (sz : Nat) (h_t : Nat) (h_t_powers : Nat) (t_genus : Int32) (t_size : Int32) (t_limit : Int32) (t_tree : Int64) (a_t_powers : Nat → Int32) (w0 : Nat → Int32) (hF : F_X1_putFirstLast t_size a_t_powers = some w0) : Met l yX1_putFirstLast wsX1_putFirstLast ({ frames := 2, cells := 0, slots := 0, locals := 45 }) (k_pre G (k_T cI cJ cD cH) [(h_t, .inr (1, [.int t_genus, .int t_size, .ref h_t_powers, .int t_limit, .long t_tree])), (h_t_powers, .inl (cI, 8, .inl a_t_powers))] sz [.ref h_t]) (va_Qv (fun (_ : Unit) => True) (fun _ t => va_P G vwCl [(h_t, .inr (1, [.int t_genus, .int t_size, .ref h_t_powers, .int t_limit, .long t_tree])), (h_t_powers, .inl (cI, 8, .inl w0))] t.heap) (va_A [(h_t, .inr (1, [.int t_genus, .int t_size, .ref h_t_powers, .int t_limit, .long t_tree])), (h_t_powers, .inl (cI, 8, .inl a_t_powers))] sz)) 0 0 (va_A [(h_t, .inr (1, [.int t_genus, .int t_size, .ref h_t_powers, .int t_limit, .long t_tree])), (h_t_powers, .inl (cI, 8, .inl a_t_powers))] sz) := by
  refine Met.ofW (cc := cX1_putFirstLast) (maxL := 2) (ret := none) (by decide) rfl ?_
  intro p e s m args below meth c s₁ B hml hv
  obtain ⟨rfl, hsz, hP, hK, hD0⟩ := hv
  have hx := B.exec
  have hb := B.bytes
  have hr := B.returns
  have hts := atoms_spec (ws := wsX1_putFirstLast) B.pre
  have hta : ∀ w ∈ wA, w.before ([.ref h_t] : List Value).toArray s = true := hta_of hts
  have hown : s.vm.findClass RX1 = some m.cls := findClass_of_methodNamed B.named
  have hlocks := B.notSynchronized
  subst hsz
  have hD := hD0.self (sz := s.heap.size)
  generalize hAe : va_A [(h_t, .inr (1, [.int t_genus, .int t_size, .ref h_t_powers, .int t_limit, .long t_tree])), (h_t_powers, .inl (cI, 8, .inl a_t_powers))] s.heap.size = A at hD ⊢
  have hA : ∀ q : Nat, s.heap.size ≤ q → A q := fun q h => by rw [← hAe]; exact Or.inr h
  have hS : va_S A s.heap s.heap [] := va_S.rf
  have hl := lv_entry ([.ref h_t]) (n := 2) (Nat.le_of_ble_eq_true rfl)
  rw [lg_entry_eq]
  generalize (lg_sl ([.ref h_t]) ++ List.replicate (2 - (lg_sl ([.ref h_t])).length) Slot.unset).toArray = ls at hl ⊢
  have hl : lv_has ls 2 [(0, .ref h_t)] := hl
  have hinX1 : ∀ w ∈ wsX10, w ∈ wsX1_putFirstLast := hin_of in_X1
  have h := hF
  unfold F_X1_putFirstLast at h
  refine lv_iconst (v := (0 : Int32)) hx hb dX1_putFirstLast_0 (by decide) ?_
  refine lv_istore_n (lv' := [(1, .int (0 : Int32)), (0, .ref h_t)]) hx hb dX1_putFirstLast_1 rfl hl (by decide) rfl (fun ls hl => ?_)
  have hK_X1_putFirstLast_2_26 : ∀  (vK2_26_0 : Nat → Int32) (H : Heap) (locs : List Loc) (ls : Array Slot), va_P G vwCl [(h_t, .inr (1, [.int t_genus, .int t_size, .ref h_t_powers, .int t_limit, .long t_tree])), (h_t_powers, .inl (cI, 8, .inl vK2_26_0))] H → va_D A [(h_t, .inr (1, [.int t_genus, .int t_size, .ref h_t_powers, .int t_limit, .long t_tree])), (h_t_powers, .inl (cI, 8, .inl vK2_26_0))] → va_S A s.heap H locs → lv_has ls 2 [] → K_X1_putFirstLast_2_26 vK2_26_0 = some w0 → W p l e (headSpec wsX1_putFirstLast ({ frames := 2, cells := 0, slots := 0, locals := 45 })).room s m ([.ref h_t] : List Value).toArray below meth c H locs 0 0 (MQ below (va_Qv (fun (_ : Unit) => True) (fun _ t => va_P G vwCl [(h_t, .inr (1, [.int t_genus, .int t_size, .ref h_t_powers, .int t_limit, .long t_tree])), (h_t_powers, .inl (cI, 8, .inl w0))] t.heap) A) ([.ref h_t] : List Value).toArray s 0 0 A) (F0 m 26 ls []) := by
    intro vK2_26_0 H locs ls hP hD hS hl h
    unfold K_X1_putFirstLast_2_26 at h
    have h9 := Option.some.inj h
    have e9 : vK2_26_0 = w0 := congrArg (fun z9 => z9) h9
    rw [← e9]
    exact k_vret hx hb hr hlocks hP hS dX1_putFirstLast_26
  have hL2 : ∀ (n2 : Nat) (vL2_0 : Nat → Int32) (vL2_1 : Int32) (H : Heap) (locs : List Loc) (ls : Array Slot), va_P G vwCl [(h_t, .inr (1, [.int t_genus, .int t_size, .ref h_t_powers, .int t_limit, .long t_tree])), (h_t_powers, .inl (cI, 8, .inl vL2_0))] H → va_D A [(h_t, .inr (1, [.int t_genus, .int t_size, .ref h_t_powers, .int t_limit, .long t_tree])), (h_t_powers, .inl (cI, 8, .inl vL2_0))] → va_S A s.heap H locs → lv_has ls 2 [(0, .ref h_t), (1, .int vL2_1)] → wq2 (B_X1_putFirstLast_2 t_size K_X1_putFirstLast_2_26) n2 vL2_0 vL2_1 = some w0 → W p l e (headSpec wsX1_putFirstLast ({ frames := 2, cells := 0, slots := 0, locals := 45 })).room s m ([.ref h_t] : List Value).toArray below meth c H locs 0 0 (MQ below (va_Qv (fun (_ : Unit) => True) (fun _ t => va_P G vwCl [(h_t, .inr (1, [.int t_genus, .int t_size, .ref h_t_powers, .int t_limit, .long t_tree])), (h_t_powers, .inl (cI, 8, .inl w0))] t.heap) A) ([.ref h_t] : List Value).toArray s 0 0 A) (F0 m 2 ls []) := by
    intro n2
    induction n2 with
    | zero => intro vL2_0 vL2_1 H locs ls hP hD hS hl h; exact wq2_0 h
    | succ n2 ih2 =>
      intro vL2_0 vL2_1 H locs ls hP hD hS hl h
      have h := wq2_s h
      unfold B_X1_putFirstLast_2 at h
      refine lv_iload_n hx hb dX1_putFirstLast_2 rfl (lv_at hl 1 rfl) ?_
      refine lv_aload_n hx hb dX1_putFirstLast_3 rfl (lv_at hl 0 rfl) ?_
      refine va_get (D := G) (ci := 1) (v := .int t_size) (C := RX1) (T := TX1) (N := 5) hx hb hts hinX1 hown hK hP 0 rfl rfl 1 (by decide) (hta _ mw_31) (fun _ h9 => h9) rfl dX1_putFirstLast_4 ?_
      refine lv_iconst (v := (1 : Int32)) hx hb dX1_putFirstLast_7 (by decide) ?_
      refine lv_isub hx hb dX1_putFirstLast_8 ?_
      refine lv_icmp_ge (tgt := 26) hx hb dX1_putFirstLast_9 (by decide) (fun c1 => ?_) (fun c1 => ?_)
      · have h := it_p h c1
        exact hK_X1_putFirstLast_2_26 vL2_0 _ _ _ hP hD hS (lv_sub hl [] rfl) h
      have h := it_n h c1
      refine lv_aload_n hx hb dX1_putFirstLast_12 rfl (lv_at hl 0 rfl) ?_
      refine lv_iload_n hx hb dX1_putFirstLast_13 rfl (lv_at hl 1 rfl) ?_
      refine lv_iload_n hx hb dX1_putFirstLast_14 rfl (lv_at hl 1 rfl) ?_
      refine lv_iconst (v := (1 : Int32)) hx hb dX1_putFirstLast_15 (by decide) ?_
      refine lv_iadd hx hb dX1_putFirstLast_16 ?_
      obtain ⟨x2, hx2, h⟩ := bd_e h
      try dsimp only at h
      refine k_VvM (n := 2) (As := [.int vL2_1, .int (vL2_1 + (1 : Int32))]) (rest := []) hx hb hml hown hts (c_X1_swap l G cI cJ cD cH H.size h_t h_t_powers t_genus t_size t_limit t_tree vL2_0 vL2_1 (vL2_1 + (1 : Int32)) x2 hx2) gX1_putFirstLast_X1_swap rfl rfl rfl (by decide +kernel) ⟨by first | exact Nat.le_of_ble_eq_true rfl | (simp only [headSpec]; omega), by first | exact Nat.le_of_ble_eq_true rfl | (simp only [headSpec]; omega)⟩ hK hP hD hS hA [0, 1] (by decide) rfl rfl (ci := 1) rfl rfl rfl rfl rfl hl.1 (Nat.le_of_ble_eq_true rfl) dX1_putFirstLast_17 ⟨Nat.zero_le _, Nat.zero_le _⟩ [(h_t, .inr (1, [.int t_genus, .int t_size, .ref h_t_powers, .int t_limit, .long t_tree])), (h_t_powers, .inl (cI, 8, .inl x2))] [1, 2] 2 (by decide +kernel) rfl rfl rfl (fun hp2 H locs hP hD hS => ?_)
      refine lv_iinc (v := (vL2_1 + (1 : Int32))) (lv' := [(1, .int (vL2_1 + (1 : Int32))), (0, .ref h_t)]) hx hb dX1_putFirstLast_20 hl (k := 1) rfl (by first | rfl | decide) (by decide) rfl (fun ls hl => ?_)
      refine lv_goto (tgt := 2) hx hb dX1_putFirstLast_23 (by decide) ?_
      exact ih2 x2 (vL2_1 + (1 : Int32)) _ _ _ hP hD hS (lv_sub hl [1, 0] rfl) h
  exact hL2 FU a_t_powers (0 : Int32) _ _ _ hP hD hS (lv_sub hl [1, 0] rfl) h

/-! X2_holdNumber -/
set_option maxHeartbeats 4000000 in
set_option maxRecDepth 100000 in
theorem c_X2_holdNumber (l : Launch) (G : va_G) (cI cJ cD cH : ClassId) (sz : Nat) (h_t : Nat) (h_t_ints : Nat) (t_sort : Int32) (t_tree : Int64) (t_limit : Int32) (t_above : Int64) (t_size : Int32) (p0 : Int64) (w0 : Int32) (w1 : Int64) (hF : F_X2_holdNumber p0 = some (w0, w1)) : Met l yX2_holdNumber wsX2_holdNumber ({ frames := 0, cells := 0, slots := 0, locals := 0 }) (k_pre G (k_T cI cJ cD cH) [(h_t, .inr (2, [.int t_sort, .long t_tree, .int t_limit, .ref h_t_ints, .long t_above, .int t_size]))] sz [.ref h_t, .long p0]) (va_Qv (fun (_ : Unit) => True) (fun _ t => va_P G vwCl [(h_t, .inr (2, [.int w0, .long t_tree, .int t_limit, .ref h_t_ints, .long w1, .int t_size]))] t.heap) (va_A [(h_t, .inr (2, [.int t_sort, .long t_tree, .int t_limit, .ref h_t_ints, .long t_above, .int t_size]))] sz)) 0 0 (va_A [(h_t, .inr (2, [.int t_sort, .long t_tree, .int t_limit, .ref h_t_ints, .long t_above, .int t_size]))] sz) := by
  refine Met.ofW (cc := cX2_holdNumber) (maxL := 3) (ret := none) (by decide) rfl ?_
  intro p e s m args below meth c s₁ B hml hv
  obtain ⟨rfl, hsz, hP, hK, hD0⟩ := hv
  have hx := B.exec
  have hb := B.bytes
  have hr := B.returns
  have hts := atoms_spec (ws := wsX2_holdNumber) B.pre
  have hta : ∀ w ∈ wA, w.before ([.ref h_t, .long p0] : List Value).toArray s = true := hta_of hts
  have hown : s.vm.findClass RX2 = some m.cls := findClass_of_methodNamed B.named
  have hlocks := B.notSynchronized
  subst hsz
  have hD := hD0.self (sz := s.heap.size)
  generalize hAe : va_A [(h_t, .inr (2, [.int t_sort, .long t_tree, .int t_limit, .ref h_t_ints, .long t_above, .int t_size]))] s.heap.size = A at hD ⊢
  have hA : ∀ q : Nat, s.heap.size ≤ q → A q := fun q h => by rw [← hAe]; exact Or.inr h
  have hS : va_S A s.heap s.heap [] := va_S.rf
  have hl := lv_entry ([.ref h_t, .long p0]) (n := 3) (Nat.le_of_ble_eq_true rfl)
  rw [lg_entry_eq]
  generalize (lg_sl ([.ref h_t, .long p0]) ++ List.replicate (3 - (lg_sl ([.ref h_t, .long p0])).length) Slot.unset).toArray = ls at hl ⊢
  have hl : lv_has ls 3 [(0, .ref h_t), (1, .long p0)] := hl
  have hinX2 : ∀ w ∈ wsX20, w ∈ wsX2_holdNumber := hin_of in_X2
  have h := hF
  unfold F_X2_holdNumber at h
  refine lv_aload_n hx hb dX2_holdNumber_0 rfl (lv_at hl 0 rfl) ?_
  refine lv_iconst (v := (1 : Int32)) hx hb dX2_holdNumber_1 (by decide) ?_
  refine va_put (D := G) (ci := 2) (v := .int (1 : Int32)) (ty := .int) (C := RX2) (T := TX2) (N := 6) hx hb hts hinX2 tyX2 tyX2_ok nmX2 hown hK hP hD hS 0 rfl rfl 0 (by decide) (hta _ mw_69) (fun _ h9 => h9) rfl (by decide +kernel) rfl rfl (Nat.le_of_ble_eq_true rfl) dX2_holdNumber_2 (fun H locs hP hD hS => ?_)
  have hP : va_P G vwCl [(h_t, .inr (2, [.int (1 : Int32), .long t_tree, .int t_limit, .ref h_t_ints, .long t_above, .int t_size]))] H := hP
  have hD : va_D A [(h_t, .inr (2, [.int (1 : Int32), .long t_tree, .int t_limit, .ref h_t_ints, .long t_above, .int t_size]))] := hD
  refine lv_aload_n hx hb dX2_holdNumber_5 rfl (lv_at hl 0 rfl) ?_
  refine lv_lload_n hx hb dX2_holdNumber_6 rfl (lv_at hl 1 rfl) ?_
  refine va_put (D := G) (ci := 2) (v := .long p0) (ty := .long) (C := RX2) (T := TX2) (N := 6) hx hb hts hinX2 tyX2 tyX2_ok nmX2 hown hK hP hD hS 0 rfl rfl 4 (by decide) (hta _ mw_70) (fun _ h9 => h9) rfl (by decide +kernel) rfl rfl (Nat.le_of_ble_eq_true rfl) dX2_holdNumber_7 (fun H locs hP hD hS => ?_)
  have hP : va_P G vwCl [(h_t, .inr (2, [.int (1 : Int32), .long t_tree, .int t_limit, .ref h_t_ints, .long p0, .int t_size]))] H := hP
  have hD : va_D A [(h_t, .inr (2, [.int (1 : Int32), .long t_tree, .int t_limit, .ref h_t_ints, .long p0, .int t_size]))] := hD
  have h9 := Option.some.inj h
  have e9 : (1 : Int32) = w0 := congrArg (fun z9 => z9.1) h9
  rw [← e9]
  have e9 : p0 = w1 := congrArg (fun z9 => z9.2) h9
  rw [← e9]
  exact k_vret hx hb hr hlocks hP hS dX2_holdNumber_10

/-! X2_holdTree -/
set_option maxHeartbeats 4000000 in
set_option maxRecDepth 100000 in
theorem c_X2_holdTree (l : Launch) (G : va_G) (cI cJ cD cH : ClassId) (sz : Nat) (h_t : Nat) (h_t_ints : Nat) (t_sort : Int32) (t_tree : Int64) (t_limit : Int32) (t_above : Int64) (t_size : Int32) (p0 : Int64) (p1 : Int32) (w0 : Int32) (w1 : Int64) (w2 : Int32) (hF : F_X2_holdTree p0 p1 = some (w0, w1, w2)) : Met l yX2_holdTree wsX2_holdTree ({ frames := 0, cells := 0, slots := 0, locals := 0 }) (k_pre G (k_T cI cJ cD cH) [(h_t, .inr (2, [.int t_sort, .long t_tree, .int t_limit, .ref h_t_ints, .long t_above, .int t_size]))] sz [.ref h_t, .long p0, .int p1]) (va_Qv (fun (_ : Unit) => True) (fun _ t => va_P G vwCl [(h_t, .inr (2, [.int w0, .long w1, .int w2, .ref h_t_ints, .long t_above, .int t_size]))] t.heap) (va_A [(h_t, .inr (2, [.int t_sort, .long t_tree, .int t_limit, .ref h_t_ints, .long t_above, .int t_size]))] sz)) 0 0 (va_A [(h_t, .inr (2, [.int t_sort, .long t_tree, .int t_limit, .ref h_t_ints, .long t_above, .int t_size]))] sz) := by
  refine Met.ofW (cc := cX2_holdTree) (maxL := 4) (ret := none) (by decide) rfl ?_
  intro p e s m args below meth c s₁ B hml hv
  obtain ⟨rfl, hsz, hP, hK, hD0⟩ := hv
  have hx := B.exec
  have hb := B.bytes
  have hr := B.returns
  have hts := atoms_spec (ws := wsX2_holdTree) B.pre
  have hta : ∀ w ∈ wA, w.before ([.ref h_t, .long p0, .int p1] : List Value).toArray s = true := hta_of hts
  have hown : s.vm.findClass RX2 = some m.cls := findClass_of_methodNamed B.named
  have hlocks := B.notSynchronized
  subst hsz
  have hD := hD0.self (sz := s.heap.size)
  generalize hAe : va_A [(h_t, .inr (2, [.int t_sort, .long t_tree, .int t_limit, .ref h_t_ints, .long t_above, .int t_size]))] s.heap.size = A at hD ⊢
  have hA : ∀ q : Nat, s.heap.size ≤ q → A q := fun q h => by rw [← hAe]; exact Or.inr h
  have hS : va_S A s.heap s.heap [] := va_S.rf
  have hl := lv_entry ([.ref h_t, .long p0, .int p1]) (n := 4) (Nat.le_of_ble_eq_true rfl)
  rw [lg_entry_eq]
  generalize (lg_sl ([.ref h_t, .long p0, .int p1]) ++ List.replicate (4 - (lg_sl ([.ref h_t, .long p0, .int p1])).length) Slot.unset).toArray = ls at hl ⊢
  have hl : lv_has ls 4 [(0, .ref h_t), (1, .long p0), (3, .int p1)] := hl
  have hinX2 : ∀ w ∈ wsX20, w ∈ wsX2_holdTree := hin_of in_X2
  have h := hF
  unfold F_X2_holdTree at h
  refine lv_aload_n hx hb dX2_holdTree_0 rfl (lv_at hl 0 rfl) ?_
  refine lv_iconst (v := (2 : Int32)) hx hb dX2_holdTree_1 (by decide) ?_
  refine va_put (D := G) (ci := 2) (v := .int (2 : Int32)) (ty := .int) (C := RX2) (T := TX2) (N := 6) hx hb hts hinX2 tyX2 tyX2_ok nmX2 hown hK hP hD hS 0 rfl rfl 0 (by decide) (hta _ mw_69) (fun _ h9 => h9) rfl (by decide +kernel) rfl rfl (Nat.le_of_ble_eq_true rfl) dX2_holdTree_2 (fun H locs hP hD hS => ?_)
  have hP : va_P G vwCl [(h_t, .inr (2, [.int (2 : Int32), .long t_tree, .int t_limit, .ref h_t_ints, .long t_above, .int t_size]))] H := hP
  have hD : va_D A [(h_t, .inr (2, [.int (2 : Int32), .long t_tree, .int t_limit, .ref h_t_ints, .long t_above, .int t_size]))] := hD
  refine lv_aload_n hx hb dX2_holdTree_5 rfl (lv_at hl 0 rfl) ?_
  refine lv_lload_n hx hb dX2_holdTree_6 rfl (lv_at hl 1 rfl) ?_
  refine va_put (D := G) (ci := 2) (v := .long p0) (ty := .long) (C := RX2) (T := TX2) (N := 6) hx hb hts hinX2 tyX2 tyX2_ok nmX2 hown hK hP hD hS 0 rfl rfl 1 (by decide) (hta _ mw_72) (fun _ h9 => h9) rfl (by decide +kernel) rfl rfl (Nat.le_of_ble_eq_true rfl) dX2_holdTree_7 (fun H locs hP hD hS => ?_)
  have hP : va_P G vwCl [(h_t, .inr (2, [.int (2 : Int32), .long p0, .int t_limit, .ref h_t_ints, .long t_above, .int t_size]))] H := hP
  have hD : va_D A [(h_t, .inr (2, [.int (2 : Int32), .long p0, .int t_limit, .ref h_t_ints, .long t_above, .int t_size]))] := hD
  refine lv_aload_n hx hb dX2_holdTree_10 rfl (lv_at hl 0 rfl) ?_
  refine lv_iload_n hx hb dX2_holdTree_11 rfl (lv_at hl 2 rfl) ?_
  refine va_put (D := G) (ci := 2) (v := .int p1) (ty := .int) (C := RX2) (T := TX2) (N := 6) hx hb hts hinX2 tyX2 tyX2_ok nmX2 hown hK hP hD hS 0 rfl rfl 2 (by decide) (hta _ mw_73) (fun _ h9 => h9) rfl (by decide +kernel) rfl rfl (Nat.le_of_ble_eq_true rfl) dX2_holdTree_12 (fun H locs hP hD hS => ?_)
  have hP : va_P G vwCl [(h_t, .inr (2, [.int (2 : Int32), .long p0, .int p1, .ref h_t_ints, .long t_above, .int t_size]))] H := hP
  have hD : va_D A [(h_t, .inr (2, [.int (2 : Int32), .long p0, .int p1, .ref h_t_ints, .long t_above, .int t_size]))] := hD
  have h9 := Option.some.inj h
  have e9 : (2 : Int32) = w0 := congrArg (fun z9 => z9.1) h9
  rw [← e9]
  have e9 : p0 = w1 := congrArg (fun z9 => z9.2.1) h9
  rw [← e9]
  have e9 : p1 = w2 := congrArg (fun z9 => z9.2.2) h9
  rw [← e9]
  exact k_vret hx hb hr hlocks hP hS dX2_holdTree_15

/-! X2_holdRow -/
set_option maxHeartbeats 4000000 in
set_option maxRecDepth 100000 in
theorem c_X2_holdRow (l : Launch) (G : va_G) (cI cJ cD cH : ClassId) (sz : Nat) (h_t : Nat) (h_t_ints : Nat) (t_sort : Int32) (t_tree : Int64) (t_limit : Int32) (t_above : Int64) (t_size : Int32) (a_t_ints : Nat → Int32) (p0 : Int32) (w0 : Nat → Int32) (w1 : Int32) (w2 : Int32) (hF : F_X2_holdRow a_t_ints p0 = some (w0, w1, w2)) : Met l yX2_holdRow wsX2_holdRow ({ frames := 0, cells := 0, slots := 0, locals := 0 }) (k_pre G (k_T cI cJ cD cH) [(h_t, .inr (2, [.int t_sort, .long t_tree, .int t_limit, .ref h_t_ints, .long t_above, .int t_size])), (h_t_ints, .inl (cI, 20, .inl a_t_ints))] sz [.ref h_t, .int p0]) (va_Qv (fun (_ : Unit) => True) (fun _ t => va_P G vwCl [(h_t, .inr (2, [.int w1, .long t_tree, .int t_limit, .ref h_t_ints, .long t_above, .int w2])), (h_t_ints, .inl (cI, 20, .inl w0))] t.heap) (va_A [(h_t, .inr (2, [.int t_sort, .long t_tree, .int t_limit, .ref h_t_ints, .long t_above, .int t_size])), (h_t_ints, .inl (cI, 20, .inl a_t_ints))] sz)) 0 0 (va_A [(h_t, .inr (2, [.int t_sort, .long t_tree, .int t_limit, .ref h_t_ints, .long t_above, .int t_size])), (h_t_ints, .inl (cI, 20, .inl a_t_ints))] sz) := by
  refine Met.ofW (cc := cX2_holdRow) (maxL := 3) (ret := none) (by decide) rfl ?_
  intro p e s m args below meth c s₁ B hml hv
  obtain ⟨rfl, hsz, hP, hK, hD0⟩ := hv
  have hx := B.exec
  have hb := B.bytes
  have hr := B.returns
  have hts := atoms_spec (ws := wsX2_holdRow) B.pre
  have hta : ∀ w ∈ wA, w.before ([.ref h_t, .int p0] : List Value).toArray s = true := hta_of hts
  have hown : s.vm.findClass RX2 = some m.cls := findClass_of_methodNamed B.named
  have hlocks := B.notSynchronized
  subst hsz
  have hD := hD0.self (sz := s.heap.size)
  generalize hAe : va_A [(h_t, .inr (2, [.int t_sort, .long t_tree, .int t_limit, .ref h_t_ints, .long t_above, .int t_size])), (h_t_ints, .inl (cI, 20, .inl a_t_ints))] s.heap.size = A at hD ⊢
  have hA : ∀ q : Nat, s.heap.size ≤ q → A q := fun q h => by rw [← hAe]; exact Or.inr h
  have hS : va_S A s.heap s.heap [] := va_S.rf
  have hl := lv_entry ([.ref h_t, .int p0]) (n := 3) (Nat.le_of_ble_eq_true rfl)
  rw [lg_entry_eq]
  generalize (lg_sl ([.ref h_t, .int p0]) ++ List.replicate (3 - (lg_sl ([.ref h_t, .int p0])).length) Slot.unset).toArray = ls at hl ⊢
  have hl : lv_has ls 3 [(0, .ref h_t), (1, .int p0)] := hl
  have hinX2 : ∀ w ∈ wsX20, w ∈ wsX2_holdRow := hin_of in_X2
  have h := hF
  unfold F_X2_holdRow at h
  refine lv_aload_n hx hb dX2_holdRow_0 rfl (lv_at hl 0 rfl) ?_
  refine lv_iconst (v := (3 : Int32)) hx hb dX2_holdRow_1 (by decide) ?_
  refine va_put (D := G) (ci := 2) (v := .int (3 : Int32)) (ty := .int) (C := RX2) (T := TX2) (N := 6) hx hb hts hinX2 tyX2 tyX2_ok nmX2 hown hK hP hD hS 0 rfl rfl 0 (by decide) (hta _ mw_69) (fun _ h9 => h9) rfl (by decide +kernel) rfl rfl (Nat.le_of_ble_eq_true rfl) dX2_holdRow_2 (fun H locs hP hD hS => ?_)
  have hP : va_P G vwCl [(h_t, .inr (2, [.int (3 : Int32), .long t_tree, .int t_limit, .ref h_t_ints, .long t_above, .int t_size])), (h_t_ints, .inl (cI, 20, .inl a_t_ints))] H := hP
  have hD : va_D A [(h_t, .inr (2, [.int (3 : Int32), .long t_tree, .int t_limit, .ref h_t_ints, .long t_above, .int t_size])), (h_t_ints, .inl (cI, 20, .inl a_t_ints))] := hD
  refine lv_aload_n hx hb dX2_holdRow_5 rfl (lv_at hl 0 rfl) ?_
  refine lv_iload_n hx hb dX2_holdRow_6 rfl (lv_at hl 1 rfl) ?_
  refine va_put (D := G) (ci := 2) (v := .int p0) (ty := .int) (C := RX2) (T := TX2) (N := 6) hx hb hts hinX2 tyX2 tyX2_ok nmX2 hown hK hP hD hS 0 rfl rfl 5 (by decide) (hta _ mw_75) (fun _ h9 => h9) rfl (by decide +kernel) rfl rfl (Nat.le_of_ble_eq_true rfl) dX2_holdRow_7 (fun H locs hP hD hS => ?_)
  have hP : va_P G vwCl [(h_t, .inr (2, [.int (3 : Int32), .long t_tree, .int t_limit, .ref h_t_ints, .long t_above, .int p0])), (h_t_ints, .inl (cI, 20, .inl a_t_ints))] H := hP
  have hD : va_D A [(h_t, .inr (2, [.int (3 : Int32), .long t_tree, .int t_limit, .ref h_t_ints, .long t_above, .int p0])), (h_t_ints, .inl (cI, 20, .inl a_t_ints))] := hD
  refine lv_iconst (v := (0 : Int32)) hx hb dX2_holdRow_10 (by decide) ?_
  refine lv_istore_n (lv' := [(2, .int (0 : Int32)), (0, .ref h_t), (1, .int p0)]) hx hb dX2_holdRow_11 rfl hl (by decide) rfl (fun ls hl => ?_)
  have hK_X2_holdRow_12_31 : ∀  (vK12_31_0 : Nat → Int32) (H : Heap) (locs : List Loc) (ls : Array Slot), va_P G vwCl [(h_t, .inr (2, [.int (3 : Int32), .long t_tree, .int t_limit, .ref h_t_ints, .long t_above, .int p0])), (h_t_ints, .inl (cI, 20, .inl vK12_31_0))] H → va_D A [(h_t, .inr (2, [.int (3 : Int32), .long t_tree, .int t_limit, .ref h_t_ints, .long t_above, .int p0])), (h_t_ints, .inl (cI, 20, .inl vK12_31_0))] → va_S A s.heap H locs → lv_has ls 3 [] → K_X2_holdRow_12_31 p0 vK12_31_0 = some (w0, w1, w2) → W p l e (headSpec wsX2_holdRow ({ frames := 0, cells := 0, slots := 0, locals := 0 })).room s m ([.ref h_t, .int p0] : List Value).toArray below meth c H locs 0 0 (MQ below (va_Qv (fun (_ : Unit) => True) (fun _ t => va_P G vwCl [(h_t, .inr (2, [.int w1, .long t_tree, .int t_limit, .ref h_t_ints, .long t_above, .int w2])), (h_t_ints, .inl (cI, 20, .inl w0))] t.heap) A) ([.ref h_t, .int p0] : List Value).toArray s 0 0 A) (F0 m 31 ls []) := by
    intro vK12_31_0 H locs ls hP hD hS hl h
    unfold K_X2_holdRow_12_31 at h
    have h9 := Option.some.inj h
    have e9 : vK12_31_0 = w0 := congrArg (fun z9 => z9.1) h9
    rw [← e9]
    have e9 : (3 : Int32) = w1 := congrArg (fun z9 => z9.2.1) h9
    rw [← e9]
    have e9 : p0 = w2 := congrArg (fun z9 => z9.2.2) h9
    rw [← e9]
    exact k_vret hx hb hr hlocks hP hS dX2_holdRow_31
  have hL12 : ∀ (n12 : Nat) (vL12_0 : Nat → Int32) (vL12_1 : Int32) (H : Heap) (locs : List Loc) (ls : Array Slot), va_P G vwCl [(h_t, .inr (2, [.int (3 : Int32), .long t_tree, .int t_limit, .ref h_t_ints, .long t_above, .int p0])), (h_t_ints, .inl (cI, 20, .inl vL12_0))] H → va_D A [(h_t, .inr (2, [.int (3 : Int32), .long t_tree, .int t_limit, .ref h_t_ints, .long t_above, .int p0])), (h_t_ints, .inl (cI, 20, .inl vL12_0))] → va_S A s.heap H locs → lv_has ls 3 [(0, .ref h_t), (2, .int vL12_1)] → wq2 (B_X2_holdRow_12 (K_X2_holdRow_12_31 p0)) n12 vL12_0 vL12_1 = some (w0, w1, w2) → W p l e (headSpec wsX2_holdRow ({ frames := 0, cells := 0, slots := 0, locals := 0 })).room s m ([.ref h_t, .int p0] : List Value).toArray below meth c H locs 0 0 (MQ below (va_Qv (fun (_ : Unit) => True) (fun _ t => va_P G vwCl [(h_t, .inr (2, [.int w1, .long t_tree, .int t_limit, .ref h_t_ints, .long t_above, .int w2])), (h_t_ints, .inl (cI, 20, .inl w0))] t.heap) A) ([.ref h_t, .int p0] : List Value).toArray s 0 0 A) (F0 m 12 ls []) := by
    intro n12
    induction n12 with
    | zero => intro vL12_0 vL12_1 H locs ls hP hD hS hl h; exact wq2_0 h
    | succ n12 ih12 =>
      intro vL12_0 vL12_1 H locs ls hP hD hS hl h
      have h := wq2_s h
      unfold B_X2_holdRow_12 at h
      refine lv_iload_n hx hb dX2_holdRow_12 rfl (lv_at hl 1 rfl) ?_
      refine lv_bipush (v := (20 : Int32)) hx hb dX2_holdRow_13 (by decide) ?_
      refine lv_icmp_ge (tgt := 31) hx hb dX2_holdRow_15 (by decide) (fun c1 => ?_) (fun c1 => ?_)
      · have h := it_p h c1
        exact hK_X2_holdRow_12_31 vL12_0 _ _ _ hP hD hS (lv_sub hl [] rfl) h
      have h := it_n h c1
      refine lv_aload_n hx hb dX2_holdRow_18 rfl (lv_at hl 0 rfl) ?_
      refine va_get (D := G) (ci := 2) (v := .ref h_t_ints) (C := RX2) (T := TX2) (N := 6) hx hb hts hinX2 hown hK hP 0 rfl rfl 3 (by decide) (hta _ mw_67) (fun _ h9 => h9) rfl dX2_holdRow_19 ?_
      refine lv_iload_n hx hb dX2_holdRow_22 rfl (lv_at hl 1 rfl) ?_
      refine lv_iconst (v := (0 : Int32)) hx hb dX2_holdRow_23 (by decide) ?_
      obtain ⟨hn2, h⟩ := ck_e h
      refine va_iast hx hb hK hP hD hS 1 0 rfl rfl hn2 dX2_holdRow_24 (fun H locs hP hD hS => ?_)
      have hP : va_P G vwCl [(h_t, .inr (2, [.int (3 : Int32), .long t_tree, .int t_limit, .ref h_t_ints, .long t_above, .int p0])), (h_t_ints, .inl (cI, 20, .inl (upd vL12_0 vL12_1.toNatClampNeg (0 : Int32))))] H := hP
      have hD : va_D A [(h_t, .inr (2, [.int (3 : Int32), .long t_tree, .int t_limit, .ref h_t_ints, .long t_above, .int p0])), (h_t_ints, .inl (cI, 20, .inl (upd vL12_0 vL12_1.toNatClampNeg (0 : Int32))))] := hD
      refine lv_iinc (v := (vL12_1 + (1 : Int32))) (lv' := [(2, .int (vL12_1 + (1 : Int32))), (0, .ref h_t)]) hx hb dX2_holdRow_25 hl (k := 1) rfl (by first | rfl | decide) (by decide) rfl (fun ls hl => ?_)
      refine lv_goto (tgt := 12) hx hb dX2_holdRow_28 (by decide) ?_
      exact ih12 (upd vL12_0 vL12_1.toNatClampNeg (0 : Int32)) (vL12_1 + (1 : Int32)) _ _ _ hP hD hS (lv_sub hl [1, 0] rfl) h
  exact hL12 FU a_t_ints (0 : Int32) _ _ _ hP hD hS (lv_sub hl [1, 0] rfl) h

/-! X2_hasPlace -/
set_option maxHeartbeats 4000000 in
set_option maxRecDepth 100000 in
theorem c_X2_hasPlace (l : Launch) (G : va_G) (cI cJ cD cH : ClassId) (sz : Nat) (h_t : Nat) (h_t_ints : Nat) (t_sort : Int32) (t_tree : Int64) (t_limit : Int32) (t_above : Int64) (t_size : Int32) (p0 : Int32) (r0 : Int32) (hF : F_X2_hasPlace t_size p0 = some r0) : Met l yX2_hasPlace wsX2_hasPlace ({ frames := 0, cells := 0, slots := 0, locals := 0 }) (k_pre G (k_T cI cJ cD cH) [(h_t, .inr (2, [.int t_sort, .long t_tree, .int t_limit, .ref h_t_ints, .long t_above, .int t_size]))] sz [.ref h_t, .int p0]) (va_Qi (fun r (_ : Unit) => r = r0 ∧ narrow .boolean (.int r0) = .int r0) (fun _ t => va_P G vwCl [(h_t, .inr (2, [.int t_sort, .long t_tree, .int t_limit, .ref h_t_ints, .long t_above, .int t_size]))] t.heap) (va_A [(h_t, .inr (2, [.int t_sort, .long t_tree, .int t_limit, .ref h_t_ints, .long t_above, .int t_size]))] sz)) 0 0 (va_A [(h_t, .inr (2, [.int t_sort, .long t_tree, .int t_limit, .ref h_t_ints, .long t_above, .int t_size]))] sz) := by
  refine Met.ofW (cc := cX2_hasPlace) (maxL := 2) (ret := (some .boolean)) (by decide) rfl ?_
  intro p e s m args below meth c s₁ B hml hv
  obtain ⟨rfl, hsz, hP, hK, hD0⟩ := hv
  have hx := B.exec
  have hb := B.bytes
  have hr := B.returns
  have hts := atoms_spec (ws := wsX2_hasPlace) B.pre
  have hta : ∀ w ∈ wA, w.before ([.ref h_t, .int p0] : List Value).toArray s = true := hta_of hts
  have hown : s.vm.findClass RX2 = some m.cls := findClass_of_methodNamed B.named
  have hlocks := B.notSynchronized
  subst hsz
  have hD := hD0.self (sz := s.heap.size)
  generalize hAe : va_A [(h_t, .inr (2, [.int t_sort, .long t_tree, .int t_limit, .ref h_t_ints, .long t_above, .int t_size]))] s.heap.size = A at hD ⊢
  have hA : ∀ q : Nat, s.heap.size ≤ q → A q := fun q h => by rw [← hAe]; exact Or.inr h
  have hS : va_S A s.heap s.heap [] := va_S.rf
  have hl := lv_entry ([.ref h_t, .int p0]) (n := 2) (Nat.le_of_ble_eq_true rfl)
  rw [lg_entry_eq]
  generalize (lg_sl ([.ref h_t, .int p0]) ++ List.replicate (2 - (lg_sl ([.ref h_t, .int p0])).length) Slot.unset).toArray = ls at hl ⊢
  have hl : lv_has ls 2 [(0, .ref h_t), (1, .int p0)] := hl
  have hinX2 : ∀ w ∈ wsX20, w ∈ wsX2_hasPlace := hin_of in_X2
  have h := hF
  unfold F_X2_hasPlace at h
  refine lv_iload_n hx hb dX2_hasPlace_0 rfl (lv_at hl 1 rfl) ?_
  refine lv_if_lt (tgt := 22) hx hb dX2_hasPlace_1 (by decide) (fun c1 => ?_) (fun c1 => ?_)
  · have h := it_p h c1
    refine lv_iconst (v := (0 : Int32)) hx hb dX2_hasPlace_22 (by decide) ?_
    have h9 := Option.some.inj h
    have e9 : (0 : Int32) = r0 := congrArg (fun z9 => z9) h9
    rw [← e9]
    exact k_zret hx hb hr hlocks hP hS rfl rfl dX2_hasPlace_23
  have h := it_n h c1
  refine lv_iload_n hx hb dX2_hasPlace_4 rfl (lv_at hl 1 rfl) ?_
  refine lv_aload_n hx hb dX2_hasPlace_5 rfl (lv_at hl 0 rfl) ?_
  refine va_get (D := G) (ci := 2) (v := .int t_size) (C := RX2) (T := TX2) (N := 6) hx hb hts hinX2 hown hK hP 0 rfl rfl 5 (by decide) (hta _ mw_75) (fun _ h9 => h9) rfl dX2_hasPlace_6 ?_
  refine lv_icmp_ge (tgt := 22) hx hb dX2_hasPlace_9 (by decide) (fun c2 => ?_) (fun c2 => ?_)
  · have h := it_p h c2
    refine lv_iconst (v := (0 : Int32)) hx hb dX2_hasPlace_22 (by decide) ?_
    have h9 := Option.some.inj h
    have e9 : (0 : Int32) = r0 := congrArg (fun z9 => z9) h9
    rw [← e9]
    exact k_zret hx hb hr hlocks hP hS rfl rfl dX2_hasPlace_23
  have h := it_n h c2
  refine lv_iload_n hx hb dX2_hasPlace_12 rfl (lv_at hl 1 rfl) ?_
  refine lv_bipush (v := (20 : Int32)) hx hb dX2_hasPlace_13 (by decide) ?_
  refine lv_icmp_ge (tgt := 22) hx hb dX2_hasPlace_15 (by decide) (fun c3 => ?_) (fun c3 => ?_)
  · have h := it_p h c3
    refine lv_iconst (v := (0 : Int32)) hx hb dX2_hasPlace_22 (by decide) ?_
    have h9 := Option.some.inj h
    have e9 : (0 : Int32) = r0 := congrArg (fun z9 => z9) h9
    rw [← e9]
    exact k_zret hx hb hr hlocks hP hS rfl rfl dX2_hasPlace_23
  have h := it_n h c3
  refine lv_iconst (v := (1 : Int32)) hx hb dX2_hasPlace_18 (by decide) ?_
  refine lv_goto (tgt := 23) hx hb dX2_hasPlace_19 (by decide) ?_
  have h9 := Option.some.inj h
  have e9 : (1 : Int32) = r0 := congrArg (fun z9 => z9) h9
  rw [← e9]
  exact k_zret hx hb hr hlocks hP hS rfl rfl dX2_hasPlace_23

/-! J13_bitCount_95d88 -/
set_option maxHeartbeats 4000000 in
set_option maxRecDepth 100000 in
theorem c_J13_bitCount_95d88 (l : Launch) (G : va_G) (cI cJ cD cH : ClassId) (sz : Nat) (p0 : Int64) (r0 : Int32) (hF : F_J13_bitCount_95d88 p0 = some r0) : Met l yJ13_bitCount_95d88 wsJ13_bitCount_95d88 ({ frames := 0, cells := 0, slots := 0, locals := 0 }) (k_pre G (k_T cI cJ cD cH) [] sz [.long p0]) (va_Qi (fun r (_ : Unit) => r = r0 ∧ True) (fun _ t => va_P G vwCl [] t.heap) (va_A [] sz)) 0 0 (va_A [] sz) := by
  refine k_ofWF (cc := cJ13_bitCount_95d88) (maxL := 2) (ret := (some .int)) (by decide +kernel) rfl ?_
  intro p e s m args below meth c s₁ B hml hv
  obtain ⟨rfl, hsz, hP, hK, hD0⟩ := hv
  have hx := B.exec
  have hb := B.bytes
  have hr := B.returns
  have hts := atoms_spec (ws := wsJ13_bitCount_95d88) B.pre
  have hta : ∀ w ∈ wA, w.before ([.long p0] : List Value).toArray s = true := hta_of hts
  have hown : s.vm.findClass RJ13 = some m.cls := findClass_of_methodNamed B.named
  have hlocks := B.notSynchronized
  subst hsz
  have hD := hD0.self (sz := s.heap.size)
  generalize hAe : va_A [] s.heap.size = A at hD ⊢
  have hA : ∀ q : Nat, s.heap.size ≤ q → A q := fun q h => by rw [← hAe]; exact Or.inr h
  have hS : va_S A s.heap s.heap [] := va_S.rf
  have hl := lv_entry ([.long p0]) (n := 2) (Nat.le_of_ble_eq_true rfl)
  rw [lg_entry_eq]
  generalize (lg_sl ([.long p0]) ++ List.replicate (2 - (lg_sl ([.long p0])).length) Slot.unset).toArray = ls at hl ⊢
  have hl : lv_has ls 2 [(0, .long p0)] := hl
  have h := hF
  unfold F_J13_bitCount_95d88 at h
  refine lv_lload_n hx hb dJ13_bitCount_95d88_0 rfl (lv_at hl 0 rfl) ?_
  refine lv_lload_n hx hb dJ13_bitCount_95d88_1 rfl (lv_at hl 0 rfl) ?_
  refine lv_iconst (v := (1 : Int32)) hx hb dJ13_bitCount_95d88_2 (by decide) ?_
  refine lv_lushr (v := (lush p0 (1 : Int32))) hx hb dJ13_bitCount_95d88_3 rfl ?_
  refine lv_ldc2 (v := (6148914691236517205 : Int64)) hx hb hown (hta _ mw_91) dJ13_bitCount_95d88_4 ?_
  refine lv_land hx hb dJ13_bitCount_95d88_7 ?_
  refine lv_lsub hx hb dJ13_bitCount_95d88_8 ?_
  refine lv_lstore_n (lv' := [(0, .long (p0 - ((lush p0 (1 : Int32)) &&& (6148914691236517205 : Int64))))]) hx hb dJ13_bitCount_95d88_9 rfl hl (by decide) rfl (fun ls hl => ?_)
  refine lv_lload_n hx hb dJ13_bitCount_95d88_10 rfl (lv_at hl 0 rfl) ?_
  refine lv_ldc2 (v := (3689348814741910323 : Int64)) hx hb hown (hta _ mw_92) dJ13_bitCount_95d88_11 ?_
  refine lv_land hx hb dJ13_bitCount_95d88_14 ?_
  refine lv_lload_n hx hb dJ13_bitCount_95d88_15 rfl (lv_at hl 0 rfl) ?_
  refine lv_iconst (v := (2 : Int32)) hx hb dJ13_bitCount_95d88_16 (by decide) ?_
  refine lv_lushr (v := (lush (p0 - ((lush p0 (1 : Int32)) &&& (6148914691236517205 : Int64))) (2 : Int32))) hx hb dJ13_bitCount_95d88_17 rfl ?_
  refine lv_ldc2 (v := (3689348814741910323 : Int64)) hx hb hown (hta _ mw_92) dJ13_bitCount_95d88_18 ?_
  refine lv_land hx hb dJ13_bitCount_95d88_21 ?_
  refine lv_ladd hx hb dJ13_bitCount_95d88_22 ?_
  refine lv_lstore_n (lv' := [(0, .long (((p0 - ((lush p0 (1 : Int32)) &&& (6148914691236517205 : Int64))) &&& (3689348814741910323 : Int64)) + ((lush (p0 - ((lush p0 (1 : Int32)) &&& (6148914691236517205 : Int64))) (2 : Int32)) &&& (3689348814741910323 : Int64))))]) hx hb dJ13_bitCount_95d88_23 rfl hl (by decide) rfl (fun ls hl => ?_)
  refine lv_lload_n hx hb dJ13_bitCount_95d88_24 rfl (lv_at hl 0 rfl) ?_
  refine lv_lload_n hx hb dJ13_bitCount_95d88_25 rfl (lv_at hl 0 rfl) ?_
  refine lv_iconst (v := (4 : Int32)) hx hb dJ13_bitCount_95d88_26 (by decide) ?_
  refine lv_lushr (v := (lush (((p0 - ((lush p0 (1 : Int32)) &&& (6148914691236517205 : Int64))) &&& (3689348814741910323 : Int64)) + ((lush (p0 - ((lush p0 (1 : Int32)) &&& (6148914691236517205 : Int64))) (2 : Int32)) &&& (3689348814741910323 : Int64))) (4 : Int32))) hx hb dJ13_bitCount_95d88_27 rfl ?_
  refine lv_ladd hx hb dJ13_bitCount_95d88_28 ?_
  refine lv_ldc2 (v := (1085102592571150095 : Int64)) hx hb hown (hta _ mw_93) dJ13_bitCount_95d88_29 ?_
  refine lv_land hx hb dJ13_bitCount_95d88_32 ?_
  refine lv_lstore_n (lv' := [(0, .long (((((p0 - ((lush p0 (1 : Int32)) &&& (6148914691236517205 : Int64))) &&& (3689348814741910323 : Int64)) + ((lush (p0 - ((lush p0 (1 : Int32)) &&& (6148914691236517205 : Int64))) (2 : Int32)) &&& (3689348814741910323 : Int64))) + (lush (((p0 - ((lush p0 (1 : Int32)) &&& (6148914691236517205 : Int64))) &&& (3689348814741910323 : Int64)) + ((lush (p0 - ((lush p0 (1 : Int32)) &&& (6148914691236517205 : Int64))) (2 : Int32)) &&& (3689348814741910323 : Int64))) (4 : Int32))) &&& (1085102592571150095 : Int64)))]) hx hb dJ13_bitCount_95d88_33 rfl hl (by decide) rfl (fun ls hl => ?_)
  refine lv_lload_n hx hb dJ13_bitCount_95d88_34 rfl (lv_at hl 0 rfl) ?_
  refine lv_lload_n hx hb dJ13_bitCount_95d88_35 rfl (lv_at hl 0 rfl) ?_
  refine lv_bipush (v := (8 : Int32)) hx hb dJ13_bitCount_95d88_36 (by decide) ?_
  refine lv_lushr (v := (lush (((((p0 - ((lush p0 (1 : Int32)) &&& (6148914691236517205 : Int64))) &&& (3689348814741910323 : Int64)) + ((lush (p0 - ((lush p0 (1 : Int32)) &&& (6148914691236517205 : Int64))) (2 : Int32)) &&& (3689348814741910323 : Int64))) + (lush (((p0 - ((lush p0 (1 : Int32)) &&& (6148914691236517205 : Int64))) &&& (3689348814741910323 : Int64)) + ((lush (p0 - ((lush p0 (1 : Int32)) &&& (6148914691236517205 : Int64))) (2 : Int32)) &&& (3689348814741910323 : Int64))) (4 : Int32))) &&& (1085102592571150095 : Int64)) (8 : Int32))) hx hb dJ13_bitCount_95d88_38 rfl ?_
  refine lv_ladd hx hb dJ13_bitCount_95d88_39 ?_
  refine lv_lstore_n (lv' := [(0, .long ((((((p0 - ((lush p0 (1 : Int32)) &&& (6148914691236517205 : Int64))) &&& (3689348814741910323 : Int64)) + ((lush (p0 - ((lush p0 (1 : Int32)) &&& (6148914691236517205 : Int64))) (2 : Int32)) &&& (3689348814741910323 : Int64))) + (lush (((p0 - ((lush p0 (1 : Int32)) &&& (6148914691236517205 : Int64))) &&& (3689348814741910323 : Int64)) + ((lush (p0 - ((lush p0 (1 : Int32)) &&& (6148914691236517205 : Int64))) (2 : Int32)) &&& (3689348814741910323 : Int64))) (4 : Int32))) &&& (1085102592571150095 : Int64)) + (lush (((((p0 - ((lush p0 (1 : Int32)) &&& (6148914691236517205 : Int64))) &&& (3689348814741910323 : Int64)) + ((lush (p0 - ((lush p0 (1 : Int32)) &&& (6148914691236517205 : Int64))) (2 : Int32)) &&& (3689348814741910323 : Int64))) + (lush (((p0 - ((lush p0 (1 : Int32)) &&& (6148914691236517205 : Int64))) &&& (3689348814741910323 : Int64)) + ((lush (p0 - ((lush p0 (1 : Int32)) &&& (6148914691236517205 : Int64))) (2 : Int32)) &&& (3689348814741910323 : Int64))) (4 : Int32))) &&& (1085102592571150095 : Int64)) (8 : Int32))))]) hx hb dJ13_bitCount_95d88_40 rfl hl (by decide) rfl (fun ls hl => ?_)
  refine lv_lload_n hx hb dJ13_bitCount_95d88_41 rfl (lv_at hl 0 rfl) ?_
  refine lv_lload_n hx hb dJ13_bitCount_95d88_42 rfl (lv_at hl 0 rfl) ?_
  refine lv_bipush (v := (16 : Int32)) hx hb dJ13_bitCount_95d88_43 (by decide) ?_
  refine lv_lushr (v := (lush ((((((p0 - ((lush p0 (1 : Int32)) &&& (6148914691236517205 : Int64))) &&& (3689348814741910323 : Int64)) + ((lush (p0 - ((lush p0 (1 : Int32)) &&& (6148914691236517205 : Int64))) (2 : Int32)) &&& (3689348814741910323 : Int64))) + (lush (((p0 - ((lush p0 (1 : Int32)) &&& (6148914691236517205 : Int64))) &&& (3689348814741910323 : Int64)) + ((lush (p0 - ((lush p0 (1 : Int32)) &&& (6148914691236517205 : Int64))) (2 : Int32)) &&& (3689348814741910323 : Int64))) (4 : Int32))) &&& (1085102592571150095 : Int64)) + (lush (((((p0 - ((lush p0 (1 : Int32)) &&& (6148914691236517205 : Int64))) &&& (3689348814741910323 : Int64)) + ((lush (p0 - ((lush p0 (1 : Int32)) &&& (6148914691236517205 : Int64))) (2 : Int32)) &&& (3689348814741910323 : Int64))) + (lush (((p0 - ((lush p0 (1 : Int32)) &&& (6148914691236517205 : Int64))) &&& (3689348814741910323 : Int64)) + ((lush (p0 - ((lush p0 (1 : Int32)) &&& (6148914691236517205 : Int64))) (2 : Int32)) &&& (3689348814741910323 : Int64))) (4 : Int32))) &&& (1085102592571150095 : Int64)) (8 : Int32))) (16 : Int32))) hx hb dJ13_bitCount_95d88_45 rfl ?_
  refine lv_ladd hx hb dJ13_bitCount_95d88_46 ?_
  refine lv_lstore_n (lv' := [(0, .long (((((((p0 - ((lush p0 (1 : Int32)) &&& (6148914691236517205 : Int64))) &&& (3689348814741910323 : Int64)) + ((lush (p0 - ((lush p0 (1 : Int32)) &&& (6148914691236517205 : Int64))) (2 : Int32)) &&& (3689348814741910323 : Int64))) + (lush (((p0 - ((lush p0 (1 : Int32)) &&& (6148914691236517205 : Int64))) &&& (3689348814741910323 : Int64)) + ((lush (p0 - ((lush p0 (1 : Int32)) &&& (6148914691236517205 : Int64))) (2 : Int32)) &&& (3689348814741910323 : Int64))) (4 : Int32))) &&& (1085102592571150095 : Int64)) + (lush (((((p0 - ((lush p0 (1 : Int32)) &&& (6148914691236517205 : Int64))) &&& (3689348814741910323 : Int64)) + ((lush (p0 - ((lush p0 (1 : Int32)) &&& (6148914691236517205 : Int64))) (2 : Int32)) &&& (3689348814741910323 : Int64))) + (lush (((p0 - ((lush p0 (1 : Int32)) &&& (6148914691236517205 : Int64))) &&& (3689348814741910323 : Int64)) + ((lush (p0 - ((lush p0 (1 : Int32)) &&& (6148914691236517205 : Int64))) (2 : Int32)) &&& (3689348814741910323 : Int64))) (4 : Int32))) &&& (1085102592571150095 : Int64)) (8 : Int32))) + (lush ((((((p0 - ((lush p0 (1 : Int32)) &&& (6148914691236517205 : Int64))) &&& (3689348814741910323 : Int64)) + ((lush (p0 - ((lush p0 (1 : Int32)) &&& (6148914691236517205 : Int64))) (2 : Int32)) &&& (3689348814741910323 : Int64))) + (lush (((p0 - ((lush p0 (1 : Int32)) &&& (6148914691236517205 : Int64))) &&& (3689348814741910323 : Int64)) + ((lush (p0 - ((lush p0 (1 : Int32)) &&& (6148914691236517205 : Int64))) (2 : Int32)) &&& (3689348814741910323 : Int64))) (4 : Int32))) &&& (1085102592571150095 : Int64)) + (lush (((((p0 - ((lush p0 (1 : Int32)) &&& (6148914691236517205 : Int64))) &&& (3689348814741910323 : Int64)) + ((lush (p0 - ((lush p0 (1 : Int32)) &&& (6148914691236517205 : Int64))) (2 : Int32)) &&& (3689348814741910323 : Int64))) + (lush (((p0 - ((lush p0 (1 : Int32)) &&& (6148914691236517205 : Int64))) &&& (3689348814741910323 : Int64)) + ((lush (p0 - ((lush p0 (1 : Int32)) &&& (6148914691236517205 : Int64))) (2 : Int32)) &&& (3689348814741910323 : Int64))) (4 : Int32))) &&& (1085102592571150095 : Int64)) (8 : Int32))) (16 : Int32))))]) hx hb dJ13_bitCount_95d88_47 rfl hl (by decide) rfl (fun ls hl => ?_)
  refine lv_lload_n hx hb dJ13_bitCount_95d88_48 rfl (lv_at hl 0 rfl) ?_
  refine lv_lload_n hx hb dJ13_bitCount_95d88_49 rfl (lv_at hl 0 rfl) ?_
  refine lv_bipush (v := (32 : Int32)) hx hb dJ13_bitCount_95d88_50 (by decide) ?_
  refine lv_lushr (v := (lush (((((((p0 - ((lush p0 (1 : Int32)) &&& (6148914691236517205 : Int64))) &&& (3689348814741910323 : Int64)) + ((lush (p0 - ((lush p0 (1 : Int32)) &&& (6148914691236517205 : Int64))) (2 : Int32)) &&& (3689348814741910323 : Int64))) + (lush (((p0 - ((lush p0 (1 : Int32)) &&& (6148914691236517205 : Int64))) &&& (3689348814741910323 : Int64)) + ((lush (p0 - ((lush p0 (1 : Int32)) &&& (6148914691236517205 : Int64))) (2 : Int32)) &&& (3689348814741910323 : Int64))) (4 : Int32))) &&& (1085102592571150095 : Int64)) + (lush (((((p0 - ((lush p0 (1 : Int32)) &&& (6148914691236517205 : Int64))) &&& (3689348814741910323 : Int64)) + ((lush (p0 - ((lush p0 (1 : Int32)) &&& (6148914691236517205 : Int64))) (2 : Int32)) &&& (3689348814741910323 : Int64))) + (lush (((p0 - ((lush p0 (1 : Int32)) &&& (6148914691236517205 : Int64))) &&& (3689348814741910323 : Int64)) + ((lush (p0 - ((lush p0 (1 : Int32)) &&& (6148914691236517205 : Int64))) (2 : Int32)) &&& (3689348814741910323 : Int64))) (4 : Int32))) &&& (1085102592571150095 : Int64)) (8 : Int32))) + (lush ((((((p0 - ((lush p0 (1 : Int32)) &&& (6148914691236517205 : Int64))) &&& (3689348814741910323 : Int64)) + ((lush (p0 - ((lush p0 (1 : Int32)) &&& (6148914691236517205 : Int64))) (2 : Int32)) &&& (3689348814741910323 : Int64))) + (lush (((p0 - ((lush p0 (1 : Int32)) &&& (6148914691236517205 : Int64))) &&& (3689348814741910323 : Int64)) + ((lush (p0 - ((lush p0 (1 : Int32)) &&& (6148914691236517205 : Int64))) (2 : Int32)) &&& (3689348814741910323 : Int64))) (4 : Int32))) &&& (1085102592571150095 : Int64)) + (lush (((((p0 - ((lush p0 (1 : Int32)) &&& (6148914691236517205 : Int64))) &&& (3689348814741910323 : Int64)) + ((lush (p0 - ((lush p0 (1 : Int32)) &&& (6148914691236517205 : Int64))) (2 : Int32)) &&& (3689348814741910323 : Int64))) + (lush (((p0 - ((lush p0 (1 : Int32)) &&& (6148914691236517205 : Int64))) &&& (3689348814741910323 : Int64)) + ((lush (p0 - ((lush p0 (1 : Int32)) &&& (6148914691236517205 : Int64))) (2 : Int32)) &&& (3689348814741910323 : Int64))) (4 : Int32))) &&& (1085102592571150095 : Int64)) (8 : Int32))) (16 : Int32))) (32 : Int32))) hx hb dJ13_bitCount_95d88_52 rfl ?_
  refine lv_ladd hx hb dJ13_bitCount_95d88_53 ?_
  refine lv_lstore_n (lv' := [(0, .long ((((((((p0 - ((lush p0 (1 : Int32)) &&& (6148914691236517205 : Int64))) &&& (3689348814741910323 : Int64)) + ((lush (p0 - ((lush p0 (1 : Int32)) &&& (6148914691236517205 : Int64))) (2 : Int32)) &&& (3689348814741910323 : Int64))) + (lush (((p0 - ((lush p0 (1 : Int32)) &&& (6148914691236517205 : Int64))) &&& (3689348814741910323 : Int64)) + ((lush (p0 - ((lush p0 (1 : Int32)) &&& (6148914691236517205 : Int64))) (2 : Int32)) &&& (3689348814741910323 : Int64))) (4 : Int32))) &&& (1085102592571150095 : Int64)) + (lush (((((p0 - ((lush p0 (1 : Int32)) &&& (6148914691236517205 : Int64))) &&& (3689348814741910323 : Int64)) + ((lush (p0 - ((lush p0 (1 : Int32)) &&& (6148914691236517205 : Int64))) (2 : Int32)) &&& (3689348814741910323 : Int64))) + (lush (((p0 - ((lush p0 (1 : Int32)) &&& (6148914691236517205 : Int64))) &&& (3689348814741910323 : Int64)) + ((lush (p0 - ((lush p0 (1 : Int32)) &&& (6148914691236517205 : Int64))) (2 : Int32)) &&& (3689348814741910323 : Int64))) (4 : Int32))) &&& (1085102592571150095 : Int64)) (8 : Int32))) + (lush ((((((p0 - ((lush p0 (1 : Int32)) &&& (6148914691236517205 : Int64))) &&& (3689348814741910323 : Int64)) + ((lush (p0 - ((lush p0 (1 : Int32)) &&& (6148914691236517205 : Int64))) (2 : Int32)) &&& (3689348814741910323 : Int64))) + (lush (((p0 - ((lush p0 (1 : Int32)) &&& (6148914691236517205 : Int64))) &&& (3689348814741910323 : Int64)) + ((lush (p0 - ((lush p0 (1 : Int32)) &&& (6148914691236517205 : Int64))) (2 : Int32)) &&& (3689348814741910323 : Int64))) (4 : Int32))) &&& (1085102592571150095 : Int64)) + (lush (((((p0 - ((lush p0 (1 : Int32)) &&& (6148914691236517205 : Int64))) &&& (3689348814741910323 : Int64)) + ((lush (p0 - ((lush p0 (1 : Int32)) &&& (6148914691236517205 : Int64))) (2 : Int32)) &&& (3689348814741910323 : Int64))) + (lush (((p0 - ((lush p0 (1 : Int32)) &&& (6148914691236517205 : Int64))) &&& (3689348814741910323 : Int64)) + ((lush (p0 - ((lush p0 (1 : Int32)) &&& (6148914691236517205 : Int64))) (2 : Int32)) &&& (3689348814741910323 : Int64))) (4 : Int32))) &&& (1085102592571150095 : Int64)) (8 : Int32))) (16 : Int32))) + (lush (((((((p0 - ((lush p0 (1 : Int32)) &&& (6148914691236517205 : Int64))) &&& (3689348814741910323 : Int64)) + ((lush (p0 - ((lush p0 (1 : Int32)) &&& (6148914691236517205 : Int64))) (2 : Int32)) &&& (3689348814741910323 : Int64))) + (lush (((p0 - ((lush p0 (1 : Int32)) &&& (6148914691236517205 : Int64))) &&& (3689348814741910323 : Int64)) + ((lush (p0 - ((lush p0 (1 : Int32)) &&& (6148914691236517205 : Int64))) (2 : Int32)) &&& (3689348814741910323 : Int64))) (4 : Int32))) &&& (1085102592571150095 : Int64)) + (lush (((((p0 - ((lush p0 (1 : Int32)) &&& (6148914691236517205 : Int64))) &&& (3689348814741910323 : Int64)) + ((lush (p0 - ((lush p0 (1 : Int32)) &&& (6148914691236517205 : Int64))) (2 : Int32)) &&& (3689348814741910323 : Int64))) + (lush (((p0 - ((lush p0 (1 : Int32)) &&& (6148914691236517205 : Int64))) &&& (3689348814741910323 : Int64)) + ((lush (p0 - ((lush p0 (1 : Int32)) &&& (6148914691236517205 : Int64))) (2 : Int32)) &&& (3689348814741910323 : Int64))) (4 : Int32))) &&& (1085102592571150095 : Int64)) (8 : Int32))) + (lush ((((((p0 - ((lush p0 (1 : Int32)) &&& (6148914691236517205 : Int64))) &&& (3689348814741910323 : Int64)) + ((lush (p0 - ((lush p0 (1 : Int32)) &&& (6148914691236517205 : Int64))) (2 : Int32)) &&& (3689348814741910323 : Int64))) + (lush (((p0 - ((lush p0 (1 : Int32)) &&& (6148914691236517205 : Int64))) &&& (3689348814741910323 : Int64)) + ((lush (p0 - ((lush p0 (1 : Int32)) &&& (6148914691236517205 : Int64))) (2 : Int32)) &&& (3689348814741910323 : Int64))) (4 : Int32))) &&& (1085102592571150095 : Int64)) + (lush (((((p0 - ((lush p0 (1 : Int32)) &&& (6148914691236517205 : Int64))) &&& (3689348814741910323 : Int64)) + ((lush (p0 - ((lush p0 (1 : Int32)) &&& (6148914691236517205 : Int64))) (2 : Int32)) &&& (3689348814741910323 : Int64))) + (lush (((p0 - ((lush p0 (1 : Int32)) &&& (6148914691236517205 : Int64))) &&& (3689348814741910323 : Int64)) + ((lush (p0 - ((lush p0 (1 : Int32)) &&& (6148914691236517205 : Int64))) (2 : Int32)) &&& (3689348814741910323 : Int64))) (4 : Int32))) &&& (1085102592571150095 : Int64)) (8 : Int32))) (16 : Int32))) (32 : Int32))))]) hx hb dJ13_bitCount_95d88_54 rfl hl (by decide) rfl (fun ls hl => ?_)
  refine lv_lload_n hx hb dJ13_bitCount_95d88_55 rfl (lv_at hl 0 rfl) ?_
  refine lv_l2i (v := ((((((((p0 - ((lush p0 (1 : Int32)) &&& (6148914691236517205 : Int64))) &&& (3689348814741910323 : Int64)) + ((lush (p0 - ((lush p0 (1 : Int32)) &&& (6148914691236517205 : Int64))) (2 : Int32)) &&& (3689348814741910323 : Int64))) + (lush (((p0 - ((lush p0 (1 : Int32)) &&& (6148914691236517205 : Int64))) &&& (3689348814741910323 : Int64)) + ((lush (p0 - ((lush p0 (1 : Int32)) &&& (6148914691236517205 : Int64))) (2 : Int32)) &&& (3689348814741910323 : Int64))) (4 : Int32))) &&& (1085102592571150095 : Int64)) + (lush (((((p0 - ((lush p0 (1 : Int32)) &&& (6148914691236517205 : Int64))) &&& (3689348814741910323 : Int64)) + ((lush (p0 - ((lush p0 (1 : Int32)) &&& (6148914691236517205 : Int64))) (2 : Int32)) &&& (3689348814741910323 : Int64))) + (lush (((p0 - ((lush p0 (1 : Int32)) &&& (6148914691236517205 : Int64))) &&& (3689348814741910323 : Int64)) + ((lush (p0 - ((lush p0 (1 : Int32)) &&& (6148914691236517205 : Int64))) (2 : Int32)) &&& (3689348814741910323 : Int64))) (4 : Int32))) &&& (1085102592571150095 : Int64)) (8 : Int32))) + (lush ((((((p0 - ((lush p0 (1 : Int32)) &&& (6148914691236517205 : Int64))) &&& (3689348814741910323 : Int64)) + ((lush (p0 - ((lush p0 (1 : Int32)) &&& (6148914691236517205 : Int64))) (2 : Int32)) &&& (3689348814741910323 : Int64))) + (lush (((p0 - ((lush p0 (1 : Int32)) &&& (6148914691236517205 : Int64))) &&& (3689348814741910323 : Int64)) + ((lush (p0 - ((lush p0 (1 : Int32)) &&& (6148914691236517205 : Int64))) (2 : Int32)) &&& (3689348814741910323 : Int64))) (4 : Int32))) &&& (1085102592571150095 : Int64)) + (lush (((((p0 - ((lush p0 (1 : Int32)) &&& (6148914691236517205 : Int64))) &&& (3689348814741910323 : Int64)) + ((lush (p0 - ((lush p0 (1 : Int32)) &&& (6148914691236517205 : Int64))) (2 : Int32)) &&& (3689348814741910323 : Int64))) + (lush (((p0 - ((lush p0 (1 : Int32)) &&& (6148914691236517205 : Int64))) &&& (3689348814741910323 : Int64)) + ((lush (p0 - ((lush p0 (1 : Int32)) &&& (6148914691236517205 : Int64))) (2 : Int32)) &&& (3689348814741910323 : Int64))) (4 : Int32))) &&& (1085102592571150095 : Int64)) (8 : Int32))) (16 : Int32))) + (lush (((((((p0 - ((lush p0 (1 : Int32)) &&& (6148914691236517205 : Int64))) &&& (3689348814741910323 : Int64)) + ((lush (p0 - ((lush p0 (1 : Int32)) &&& (6148914691236517205 : Int64))) (2 : Int32)) &&& (3689348814741910323 : Int64))) + (lush (((p0 - ((lush p0 (1 : Int32)) &&& (6148914691236517205 : Int64))) &&& (3689348814741910323 : Int64)) + ((lush (p0 - ((lush p0 (1 : Int32)) &&& (6148914691236517205 : Int64))) (2 : Int32)) &&& (3689348814741910323 : Int64))) (4 : Int32))) &&& (1085102592571150095 : Int64)) + (lush (((((p0 - ((lush p0 (1 : Int32)) &&& (6148914691236517205 : Int64))) &&& (3689348814741910323 : Int64)) + ((lush (p0 - ((lush p0 (1 : Int32)) &&& (6148914691236517205 : Int64))) (2 : Int32)) &&& (3689348814741910323 : Int64))) + (lush (((p0 - ((lush p0 (1 : Int32)) &&& (6148914691236517205 : Int64))) &&& (3689348814741910323 : Int64)) + ((lush (p0 - ((lush p0 (1 : Int32)) &&& (6148914691236517205 : Int64))) (2 : Int32)) &&& (3689348814741910323 : Int64))) (4 : Int32))) &&& (1085102592571150095 : Int64)) (8 : Int32))) + (lush ((((((p0 - ((lush p0 (1 : Int32)) &&& (6148914691236517205 : Int64))) &&& (3689348814741910323 : Int64)) + ((lush (p0 - ((lush p0 (1 : Int32)) &&& (6148914691236517205 : Int64))) (2 : Int32)) &&& (3689348814741910323 : Int64))) + (lush (((p0 - ((lush p0 (1 : Int32)) &&& (6148914691236517205 : Int64))) &&& (3689348814741910323 : Int64)) + ((lush (p0 - ((lush p0 (1 : Int32)) &&& (6148914691236517205 : Int64))) (2 : Int32)) &&& (3689348814741910323 : Int64))) (4 : Int32))) &&& (1085102592571150095 : Int64)) + (lush (((((p0 - ((lush p0 (1 : Int32)) &&& (6148914691236517205 : Int64))) &&& (3689348814741910323 : Int64)) + ((lush (p0 - ((lush p0 (1 : Int32)) &&& (6148914691236517205 : Int64))) (2 : Int32)) &&& (3689348814741910323 : Int64))) + (lush (((p0 - ((lush p0 (1 : Int32)) &&& (6148914691236517205 : Int64))) &&& (3689348814741910323 : Int64)) + ((lush (p0 - ((lush p0 (1 : Int32)) &&& (6148914691236517205 : Int64))) (2 : Int32)) &&& (3689348814741910323 : Int64))) (4 : Int32))) &&& (1085102592571150095 : Int64)) (8 : Int32))) (16 : Int32))) (32 : Int32))).toInt32) hx hb dJ13_bitCount_95d88_56 rfl ?_
  refine lv_bipush (v := (127 : Int32)) hx hb dJ13_bitCount_95d88_57 (by decide) ?_
  refine lv_iand hx hb dJ13_bitCount_95d88_59 ?_
  have h9 := Option.some.inj h
  have e9 : (((((((((p0 - ((lush p0 (1 : Int32)) &&& (6148914691236517205 : Int64))) &&& (3689348814741910323 : Int64)) + ((lush (p0 - ((lush p0 (1 : Int32)) &&& (6148914691236517205 : Int64))) (2 : Int32)) &&& (3689348814741910323 : Int64))) + (lush (((p0 - ((lush p0 (1 : Int32)) &&& (6148914691236517205 : Int64))) &&& (3689348814741910323 : Int64)) + ((lush (p0 - ((lush p0 (1 : Int32)) &&& (6148914691236517205 : Int64))) (2 : Int32)) &&& (3689348814741910323 : Int64))) (4 : Int32))) &&& (1085102592571150095 : Int64)) + (lush (((((p0 - ((lush p0 (1 : Int32)) &&& (6148914691236517205 : Int64))) &&& (3689348814741910323 : Int64)) + ((lush (p0 - ((lush p0 (1 : Int32)) &&& (6148914691236517205 : Int64))) (2 : Int32)) &&& (3689348814741910323 : Int64))) + (lush (((p0 - ((lush p0 (1 : Int32)) &&& (6148914691236517205 : Int64))) &&& (3689348814741910323 : Int64)) + ((lush (p0 - ((lush p0 (1 : Int32)) &&& (6148914691236517205 : Int64))) (2 : Int32)) &&& (3689348814741910323 : Int64))) (4 : Int32))) &&& (1085102592571150095 : Int64)) (8 : Int32))) + (lush ((((((p0 - ((lush p0 (1 : Int32)) &&& (6148914691236517205 : Int64))) &&& (3689348814741910323 : Int64)) + ((lush (p0 - ((lush p0 (1 : Int32)) &&& (6148914691236517205 : Int64))) (2 : Int32)) &&& (3689348814741910323 : Int64))) + (lush (((p0 - ((lush p0 (1 : Int32)) &&& (6148914691236517205 : Int64))) &&& (3689348814741910323 : Int64)) + ((lush (p0 - ((lush p0 (1 : Int32)) &&& (6148914691236517205 : Int64))) (2 : Int32)) &&& (3689348814741910323 : Int64))) (4 : Int32))) &&& (1085102592571150095 : Int64)) + (lush (((((p0 - ((lush p0 (1 : Int32)) &&& (6148914691236517205 : Int64))) &&& (3689348814741910323 : Int64)) + ((lush (p0 - ((lush p0 (1 : Int32)) &&& (6148914691236517205 : Int64))) (2 : Int32)) &&& (3689348814741910323 : Int64))) + (lush (((p0 - ((lush p0 (1 : Int32)) &&& (6148914691236517205 : Int64))) &&& (3689348814741910323 : Int64)) + ((lush (p0 - ((lush p0 (1 : Int32)) &&& (6148914691236517205 : Int64))) (2 : Int32)) &&& (3689348814741910323 : Int64))) (4 : Int32))) &&& (1085102592571150095 : Int64)) (8 : Int32))) (16 : Int32))) + (lush (((((((p0 - ((lush p0 (1 : Int32)) &&& (6148914691236517205 : Int64))) &&& (3689348814741910323 : Int64)) + ((lush (p0 - ((lush p0 (1 : Int32)) &&& (6148914691236517205 : Int64))) (2 : Int32)) &&& (3689348814741910323 : Int64))) + (lush (((p0 - ((lush p0 (1 : Int32)) &&& (6148914691236517205 : Int64))) &&& (3689348814741910323 : Int64)) + ((lush (p0 - ((lush p0 (1 : Int32)) &&& (6148914691236517205 : Int64))) (2 : Int32)) &&& (3689348814741910323 : Int64))) (4 : Int32))) &&& (1085102592571150095 : Int64)) + (lush (((((p0 - ((lush p0 (1 : Int32)) &&& (6148914691236517205 : Int64))) &&& (3689348814741910323 : Int64)) + ((lush (p0 - ((lush p0 (1 : Int32)) &&& (6148914691236517205 : Int64))) (2 : Int32)) &&& (3689348814741910323 : Int64))) + (lush (((p0 - ((lush p0 (1 : Int32)) &&& (6148914691236517205 : Int64))) &&& (3689348814741910323 : Int64)) + ((lush (p0 - ((lush p0 (1 : Int32)) &&& (6148914691236517205 : Int64))) (2 : Int32)) &&& (3689348814741910323 : Int64))) (4 : Int32))) &&& (1085102592571150095 : Int64)) (8 : Int32))) + (lush ((((((p0 - ((lush p0 (1 : Int32)) &&& (6148914691236517205 : Int64))) &&& (3689348814741910323 : Int64)) + ((lush (p0 - ((lush p0 (1 : Int32)) &&& (6148914691236517205 : Int64))) (2 : Int32)) &&& (3689348814741910323 : Int64))) + (lush (((p0 - ((lush p0 (1 : Int32)) &&& (6148914691236517205 : Int64))) &&& (3689348814741910323 : Int64)) + ((lush (p0 - ((lush p0 (1 : Int32)) &&& (6148914691236517205 : Int64))) (2 : Int32)) &&& (3689348814741910323 : Int64))) (4 : Int32))) &&& (1085102592571150095 : Int64)) + (lush (((((p0 - ((lush p0 (1 : Int32)) &&& (6148914691236517205 : Int64))) &&& (3689348814741910323 : Int64)) + ((lush (p0 - ((lush p0 (1 : Int32)) &&& (6148914691236517205 : Int64))) (2 : Int32)) &&& (3689348814741910323 : Int64))) + (lush (((p0 - ((lush p0 (1 : Int32)) &&& (6148914691236517205 : Int64))) &&& (3689348814741910323 : Int64)) + ((lush (p0 - ((lush p0 (1 : Int32)) &&& (6148914691236517205 : Int64))) (2 : Int32)) &&& (3689348814741910323 : Int64))) (4 : Int32))) &&& (1085102592571150095 : Int64)) (8 : Int32))) (16 : Int32))) (32 : Int32))).toInt32 &&& (127 : Int32)) = r0 := congrArg (fun z9 => z9) h9
  rw [← e9]
  exact k_iret hx hb hr hlocks hP hS rfl dJ13_bitCount_95d88_60

/-! X6_sizeOf -/
set_option maxHeartbeats 4000000 in
set_option maxRecDepth 100000 in
theorem c_X6_sizeOf (l : Launch) (G : va_G) (cI cJ cD cH : ClassId) (sz : Nat) (p0 : Int64) (r0 : Int32) (hF : F_X6_sizeOf p0 = some r0) : Met l yX6_sizeOf wsX6_sizeOf ({ frames := 1, cells := 0, slots := 0, locals := 21 }) (k_pre G (k_T cI cJ cD cH) [] sz [.long p0]) (va_Qi (fun r (_ : Unit) => r = r0 ∧ True) (fun _ t => va_P G vwCl [] t.heap) (va_A [] sz)) 0 0 (va_A [] sz) := by
  refine Met.ofW (cc := cX6_sizeOf) (maxL := 2) (ret := (some .int)) (by decide) rfl ?_
  intro p e s m args below meth c s₁ B hml hv
  obtain ⟨rfl, hsz, hP, hK, hD0⟩ := hv
  have hx := B.exec
  have hb := B.bytes
  have hr := B.returns
  have hts := atoms_spec (ws := wsX6_sizeOf) B.pre
  have hta : ∀ w ∈ wA, w.before ([.long p0] : List Value).toArray s = true := hta_of hts
  have hown : s.vm.findClass RX6 = some m.cls := findClass_of_methodNamed B.named
  have hlocks := B.notSynchronized
  subst hsz
  have hD := hD0.self (sz := s.heap.size)
  generalize hAe : va_A [] s.heap.size = A at hD ⊢
  have hA : ∀ q : Nat, s.heap.size ≤ q → A q := fun q h => by rw [← hAe]; exact Or.inr h
  have hS : va_S A s.heap s.heap [] := va_S.rf
  have hl := lv_entry ([.long p0]) (n := 2) (Nat.le_of_ble_eq_true rfl)
  rw [lg_entry_eq]
  generalize (lg_sl ([.long p0]) ++ List.replicate (2 - (lg_sl ([.long p0])).length) Slot.unset).toArray = ls at hl ⊢
  have hl : lv_has ls 2 [(0, .long p0)] := hl
  have h := hF
  unfold F_X6_sizeOf at h
  refine lv_lload_n hx hb dX6_sizeOf_0 rfl (lv_at hl 0 rfl) ?_
  obtain ⟨x1, hx1, h⟩ := bd_e h
  try dsimp only at h
  refine k_SiU (n := 1) (As := [.long p0]) (rest := []) hx hb hml hown hts (c_J13_bitCount_95d88 l G cI cJ cD cH s.heap.size p0 x1 hx1) gX6_sizeOf_J13_bitCount_95d88 rfl rfl rfl (by decide +kernel) ⟨by first | exact Nat.le_of_ble_eq_true rfl | (simp only [headSpec]; omega), by first | exact Nat.le_of_ble_eq_true rfl | (simp only [headSpec]; omega)⟩ hK hP hD hS hA [] (by decide) rfl rfl rfl hl.1 (Nat.le_of_ble_eq_true rfl) dX6_sizeOf_1 ⟨Nat.zero_le _, Nat.zero_le _⟩ (fun hp1 H locs hP hS => ?_)
  have h9 := Option.some.inj h
  have e9 : x1 = r0 := congrArg (fun z9 => z9) h9
  rw [← e9]
  exact k_iret hx hb hr hlocks hP hS rfl dX6_sizeOf_4

/-! X2_isFullTree -/
set_option maxHeartbeats 4000000 in
set_option maxRecDepth 100000 in
theorem c_X2_isFullTree (l : Launch) (G : va_G) (cI cJ cD cH : ClassId) (sz : Nat) (h_t : Nat) (h_t_ints : Nat) (t_sort : Int32) (t_tree : Int64) (t_limit : Int32) (t_above : Int64) (t_size : Int32) (r0 : Int32) (hF : F_X2_isFullTree t_tree t_limit = some r0) : Met l yX2_isFullTree wsX2_isFullTree ({ frames := 2, cells := 0, slots := 0, locals := 42 }) (k_pre G (k_T cI cJ cD cH) [(h_t, .inr (2, [.int t_sort, .long t_tree, .int t_limit, .ref h_t_ints, .long t_above, .int t_size]))] sz [.ref h_t]) (va_Qi (fun r (_ : Unit) => r = r0 ∧ narrow .boolean (.int r0) = .int r0) (fun _ t => va_P G vwCl [(h_t, .inr (2, [.int t_sort, .long t_tree, .int t_limit, .ref h_t_ints, .long t_above, .int t_size]))] t.heap) (va_A [(h_t, .inr (2, [.int t_sort, .long t_tree, .int t_limit, .ref h_t_ints, .long t_above, .int t_size]))] sz)) 0 0 (va_A [(h_t, .inr (2, [.int t_sort, .long t_tree, .int t_limit, .ref h_t_ints, .long t_above, .int t_size]))] sz) := by
  refine Met.ofW (cc := cX2_isFullTree) (maxL := 1) (ret := (some .boolean)) (by decide) rfl ?_
  intro p e s m args below meth c s₁ B hml hv
  obtain ⟨rfl, hsz, hP, hK, hD0⟩ := hv
  have hx := B.exec
  have hb := B.bytes
  have hr := B.returns
  have hts := atoms_spec (ws := wsX2_isFullTree) B.pre
  have hta : ∀ w ∈ wA, w.before ([.ref h_t] : List Value).toArray s = true := hta_of hts
  have hown : s.vm.findClass RX2 = some m.cls := findClass_of_methodNamed B.named
  have hlocks := B.notSynchronized
  subst hsz
  have hD := hD0.self (sz := s.heap.size)
  generalize hAe : va_A [(h_t, .inr (2, [.int t_sort, .long t_tree, .int t_limit, .ref h_t_ints, .long t_above, .int t_size]))] s.heap.size = A at hD ⊢
  have hA : ∀ q : Nat, s.heap.size ≤ q → A q := fun q h => by rw [← hAe]; exact Or.inr h
  have hS : va_S A s.heap s.heap [] := va_S.rf
  have hl := lv_entry ([.ref h_t]) (n := 1) (Nat.le_of_ble_eq_true rfl)
  rw [lg_entry_eq]
  generalize (lg_sl ([.ref h_t]) ++ List.replicate (1 - (lg_sl ([.ref h_t])).length) Slot.unset).toArray = ls at hl ⊢
  have hl : lv_has ls 1 [(0, .ref h_t)] := hl
  have hinX2 : ∀ w ∈ wsX20, w ∈ wsX2_isFullTree := hin_of in_X2
  have h := hF
  unfold F_X2_isFullTree at h
  refine lv_aload_n hx hb dX2_isFullTree_0 rfl (lv_at hl 0 rfl) ?_
  refine va_get (D := G) (ci := 2) (v := .long t_tree) (C := RX2) (T := TX2) (N := 6) hx hb hts hinX2 hown hK hP 0 rfl rfl 1 (by decide) (hta _ mw_72) (fun _ h9 => h9) rfl dX2_isFullTree_1 ?_
  obtain ⟨x1, hx1, h⟩ := bd_e h
  try dsimp only at h
  refine k_SiU (n := 1) (As := [.long t_tree]) (rest := []) hx hb hml hown hts (c_X6_sizeOf l G cI cJ cD cH s.heap.size t_tree x1 hx1) gX2_isFullTree_X6_sizeOf rfl rfl rfl (by decide +kernel) ⟨by first | exact Nat.le_of_ble_eq_true rfl | (simp only [headSpec]; omega), by first | exact Nat.le_of_ble_eq_true rfl | (simp only [headSpec]; omega)⟩ hK hP hD hS hA [] (by decide) rfl rfl rfl hl.1 (Nat.le_of_ble_eq_true rfl) dX2_isFullTree_4 ⟨Nat.zero_le _, Nat.zero_le _⟩ (fun hp1 H locs hP hS => ?_)
  refine lv_aload_n hx hb dX2_isFullTree_7 rfl (lv_at hl 0 rfl) ?_
  refine va_get (D := G) (ci := 2) (v := .int t_limit) (C := RX2) (T := TX2) (N := 6) hx hb hts hinX2 hown hK hP 0 rfl rfl 2 (by decide) (hta _ mw_73) (fun _ h9 => h9) rfl dX2_isFullTree_8 ?_
  refine lv_iconst (v := (3 : Int32)) hx hb dX2_isFullTree_11 (by decide) ?_
  refine lv_isub hx hb dX2_isFullTree_12 ?_
  refine lv_icmp_ne (tgt := 20) hx hb dX2_isFullTree_13 (by decide) (fun c2 => ?_) (fun c2 => ?_)
  · have h := it_n h c2
    refine lv_iconst (v := (0 : Int32)) hx hb dX2_isFullTree_20 (by decide) ?_
    have h9 := Option.some.inj h
    have e9 : (0 : Int32) = r0 := congrArg (fun z9 => z9) h9
    rw [← e9]
    exact k_zret hx hb hr hlocks hP hS rfl rfl dX2_isFullTree_21
  have h := it_p h c2
  refine lv_iconst (v := (1 : Int32)) hx hb dX2_isFullTree_16 (by decide) ?_
  refine lv_goto (tgt := 21) hx hb dX2_isFullTree_17 (by decide) ?_
  have h9 := Option.some.inj h
  have e9 : (1 : Int32) = r0 := congrArg (fun z9 => z9) h9
  rw [← e9]
  exact k_zret hx hb hr hlocks hP hS rfl rfl dX2_isFullTree_21

/-! X2_isOfKind -/
set_option maxHeartbeats 4000000 in
set_option maxRecDepth 100000 in
theorem c_X2_isOfKind (l : Launch) (G : va_G) (cI cJ cD cH : ClassId) (sz : Nat) (h_t : Nat) (h_t_ints : Nat) (t_sort : Int32) (t_tree : Int64) (t_limit : Int32) (t_above : Int64) (t_size : Int32) (p0 : Int32) (r0 : Int32) (hF : F_X2_isOfKind t_sort t_tree t_limit p0 = some r0) : Met l yX2_isOfKind wsX2_isOfKind ({ frames := 3, cells := 0, slots := 0, locals := 62 }) (k_pre G (k_T cI cJ cD cH) [(h_t, .inr (2, [.int t_sort, .long t_tree, .int t_limit, .ref h_t_ints, .long t_above, .int t_size]))] sz [.ref h_t, .int p0]) (va_Qi (fun r (_ : Unit) => r = r0 ∧ narrow .boolean (.int r0) = .int r0) (fun _ t => va_P G vwCl [(h_t, .inr (2, [.int t_sort, .long t_tree, .int t_limit, .ref h_t_ints, .long t_above, .int t_size]))] t.heap) (va_A [(h_t, .inr (2, [.int t_sort, .long t_tree, .int t_limit, .ref h_t_ints, .long t_above, .int t_size]))] sz)) 0 0 (va_A [(h_t, .inr (2, [.int t_sort, .long t_tree, .int t_limit, .ref h_t_ints, .long t_above, .int t_size]))] sz) := by
  refine Met.ofW (cc := cX2_isOfKind) (maxL := 2) (ret := (some .boolean)) (by decide) rfl ?_
  intro p e s m args below meth c s₁ B hml hv
  obtain ⟨rfl, hsz, hP, hK, hD0⟩ := hv
  have hx := B.exec
  have hb := B.bytes
  have hr := B.returns
  have hts := atoms_spec (ws := wsX2_isOfKind) B.pre
  have hta : ∀ w ∈ wA, w.before ([.ref h_t, .int p0] : List Value).toArray s = true := hta_of hts
  have hown : s.vm.findClass RX2 = some m.cls := findClass_of_methodNamed B.named
  have hlocks := B.notSynchronized
  subst hsz
  have hD := hD0.self (sz := s.heap.size)
  generalize hAe : va_A [(h_t, .inr (2, [.int t_sort, .long t_tree, .int t_limit, .ref h_t_ints, .long t_above, .int t_size]))] s.heap.size = A at hD ⊢
  have hA : ∀ q : Nat, s.heap.size ≤ q → A q := fun q h => by rw [← hAe]; exact Or.inr h
  have hS : va_S A s.heap s.heap [] := va_S.rf
  have hl := lv_entry ([.ref h_t, .int p0]) (n := 2) (Nat.le_of_ble_eq_true rfl)
  rw [lg_entry_eq]
  generalize (lg_sl ([.ref h_t, .int p0]) ++ List.replicate (2 - (lg_sl ([.ref h_t, .int p0])).length) Slot.unset).toArray = ls at hl ⊢
  have hl : lv_has ls 2 [(0, .ref h_t), (1, .int p0)] := hl
  have hinX2 : ∀ w ∈ wsX20, w ∈ wsX2_isOfKind := hin_of in_X2
  have h := hF
  unfold F_X2_isOfKind at h
  refine lv_iload_n hx hb dX2_isOfKind_0 rfl (lv_at hl 1 rfl) ?_
  refine lv_if_ne (tgt := 18) hx hb dX2_isOfKind_1 (by decide) (fun c1 => ?_) (fun c1 => ?_)
  rotate_left
  · have h := it_p h c1
    refine lv_aload_n hx hb dX2_isOfKind_4 rfl (lv_at hl 0 rfl) ?_
    refine va_get (D := G) (ci := 2) (v := .int t_sort) (C := RX2) (T := TX2) (N := 6) hx hb hts hinX2 hown hK hP 0 rfl rfl 0 (by decide) (hta _ mw_69) (fun _ h9 => h9) rfl dX2_isOfKind_5 ?_
    refine lv_iconst (v := (1 : Int32)) hx hb dX2_isOfKind_8 (by decide) ?_
    refine lv_icmp_ne (tgt := 16) hx hb dX2_isOfKind_9 (by decide) (fun c10 => ?_) (fun c10 => ?_)
    · have h := it_n h c10
      refine lv_iconst (v := (0 : Int32)) hx hb dX2_isOfKind_16 (by decide) ?_
      have h9 := Option.some.inj h
      have e9 : (0 : Int32) = r0 := congrArg (fun z9 => z9) h9
      rw [← e9]
      exact k_zret hx hb hr hlocks hP hS rfl rfl dX2_isOfKind_17
    have h := it_p h c10
    refine lv_iconst (v := (1 : Int32)) hx hb dX2_isOfKind_12 (by decide) ?_
    refine lv_goto (tgt := 17) hx hb dX2_isOfKind_13 (by decide) ?_
    have h9 := Option.some.inj h
    have e9 : (1 : Int32) = r0 := congrArg (fun z9 => z9) h9
    rw [← e9]
    exact k_zret hx hb hr hlocks hP hS rfl rfl dX2_isOfKind_17
  have h := it_n h c1
  refine lv_aload_n hx hb dX2_isOfKind_18 rfl (lv_at hl 0 rfl) ?_
  refine va_get (D := G) (ci := 2) (v := .int t_sort) (C := RX2) (T := TX2) (N := 6) hx hb hts hinX2 hown hK hP 0 rfl rfl 0 (by decide) (hta _ mw_69) (fun _ h9 => h9) rfl dX2_isOfKind_19 ?_
  refine lv_iconst (v := (2 : Int32)) hx hb dX2_isOfKind_22 (by decide) ?_
  refine lv_icmp_eq (tgt := 28) hx hb dX2_isOfKind_23 (by decide) (fun c2 => ?_) (fun c2 => ?_)
  rotate_left
  · have h := it_n h c2
    refine lv_iconst (v := (0 : Int32)) hx hb dX2_isOfKind_26 (by decide) ?_
    have h9 := Option.some.inj h
    have e9 : (0 : Int32) = r0 := congrArg (fun z9 => z9) h9
    rw [← e9]
    exact k_zret hx hb hr hlocks hP hS rfl rfl dX2_isOfKind_27
  have h := it_p h c2
  refine lv_iload_n hx hb dX2_isOfKind_28 rfl (lv_at hl 1 rfl) ?_
  by_cases c3 : p0 = (1 : Int32)
  · have h := it_p h c3
    refine lv_tableIn (tgt := 56) hx hb dX2_isOfKind_29 (by rw [c3]; decide) (by rw [c3]; decide) (off := 27) (by rw [c3]; decide) (by decide) ?_
    refine lv_iconst (v := (1 : Int32)) hx hb dX2_isOfKind_56 (by decide) ?_
    have h9 := Option.some.inj h
    have e9 : (1 : Int32) = r0 := congrArg (fun z9 => z9) h9
    rw [← e9]
    exact k_zret hx hb hr hlocks hP hS rfl rfl dX2_isOfKind_57
  have h := it_n h c3
  by_cases c4 : p0 = (2 : Int32)
  · have h := it_p h c4
    refine lv_tableIn (tgt := 58) hx hb dX2_isOfKind_29 (by rw [c4]; decide) (by rw [c4]; decide) (off := 29) (by rw [c4]; decide) (by decide) ?_
    refine lv_aload_n hx hb dX2_isOfKind_58 rfl (lv_at hl 0 rfl) ?_
    obtain ⟨x5, hx5, h⟩ := bd_e h
    try dsimp only at h
    refine k_ViU (n := 0) (As := []) (rest := []) hx hb hml hown hts (c_X2_isFullTree l G cI cJ cD cH s.heap.size h_t h_t_ints t_sort t_tree t_limit t_above t_size x5 hx5) gX2_isOfKind_X2_isFullTree rfl rfl rfl (by decide +kernel) ⟨by first | exact Nat.le_of_ble_eq_true rfl | (simp only [headSpec]; omega), by first | exact Nat.le_of_ble_eq_true rfl | (simp only [headSpec]; omega)⟩ hK hP hD hS hA [0] (by decide) rfl (ci := 2) rfl rfl rfl rfl rfl hl.1 (Nat.le_of_ble_eq_true rfl) dX2_isOfKind_59 ⟨Nat.zero_le _, Nat.zero_le _⟩ (fun hp5 H locs hP hS => ?_)
    have h9 := Option.some.inj h
    have e9 : x5 = r0 := congrArg (fun z9 => z9) h9
    rw [← e9]
    exact k_zret hx hb hr hlocks hP hS rfl hp5 dX2_isOfKind_62
  have h := it_n h c4
  by_cases c6 : p0 = (3 : Int32)
  · have h := it_p h c6
    refine lv_tableIn (tgt := 63) hx hb dX2_isOfKind_29 (by rw [c6]; decide) (by rw [c6]; decide) (off := 34) (by rw [c6]; decide) (by decide) ?_
    refine lv_aload_n hx hb dX2_isOfKind_63 rfl (lv_at hl 0 rfl) ?_
    refine va_get (D := G) (ci := 2) (v := .long t_tree) (C := RX2) (T := TX2) (N := 6) hx hb hts hinX2 hown hK hP 0 rfl rfl 1 (by decide) (hta _ mw_72) (fun _ h9 => h9) rfl dX2_isOfKind_64 ?_
    refine lv_lconst (v := (0 : Int64)) hx hb dX2_isOfKind_67 (by decide) ?_
    refine W.lcmp hx hb dX2_isOfKind_68 ?_
    refine lv_if_ne (tgt := 83) hx hb dX2_isOfKind_69 (by decide) (fun c7 => ?_) (fun c7 => ?_)
    · have h := it_n h c7
      refine lv_iconst (v := (0 : Int32)) hx hb dX2_isOfKind_83 (by decide) ?_
      have h9 := Option.some.inj h
      have e9 : (0 : Int32) = r0 := congrArg (fun z9 => z9) h9
      rw [← e9]
      exact k_zret hx hb hr hlocks hP hS rfl rfl dX2_isOfKind_84
    have h := it_p h c7
    refine lv_aload_n hx hb dX2_isOfKind_72 rfl (lv_at hl 0 rfl) ?_
    obtain ⟨x8, hx8, h⟩ := bd_e h
    try dsimp only at h
    refine k_ViU (n := 0) (As := []) (rest := []) hx hb hml hown hts (c_X2_isFullTree l G cI cJ cD cH s.heap.size h_t h_t_ints t_sort t_tree t_limit t_above t_size x8 hx8) gX2_isOfKind_X2_isFullTree rfl rfl rfl (by decide +kernel) ⟨by first | exact Nat.le_of_ble_eq_true rfl | (simp only [headSpec]; omega), by first | exact Nat.le_of_ble_eq_true rfl | (simp only [headSpec]; omega)⟩ hK hP hD hS hA [0] (by decide) rfl (ci := 2) rfl rfl rfl rfl rfl hl.1 (Nat.le_of_ble_eq_true rfl) dX2_isOfKind_73 ⟨Nat.zero_le _, Nat.zero_le _⟩ (fun hp8 H locs hP hS => ?_)
    refine lv_if_ne (tgt := 83) hx hb dX2_isOfKind_76 (by decide) (fun c9 => ?_) (fun c9 => ?_)
    · have h := it_n h c9
      refine lv_iconst (v := (0 : Int32)) hx hb dX2_isOfKind_83 (by decide) ?_
      have h9 := Option.some.inj h
      have e9 : (0 : Int32) = r0 := congrArg (fun z9 => z9) h9
      rw [← e9]
      exact k_zret hx hb hr hlocks hP hS rfl rfl dX2_isOfKind_84
    have h := it_p h c9
    refine lv_iconst (v := (1 : Int32)) hx hb dX2_isOfKind_79 (by decide) ?_
    refine lv_goto (tgt := 84) hx hb dX2_isOfKind_80 (by decide) ?_
    have h9 := Option.some.inj h
    have e9 : (1 : Int32) = r0 := congrArg (fun z9 => z9) h9
    rw [← e9]
    exact k_zret hx hb hr hlocks hP hS rfl rfl dX2_isOfKind_84
  have h := it_n h c6
  refine lv_tableOut (tgt := 85) hx hb dX2_isOfKind_29 (k_tout3  c3 c4 c6) (by decide) ?_
  refine lv_iconst (v := (0 : Int32)) hx hb dX2_isOfKind_85 (by decide) ?_
  have h9 := Option.some.inj h
  have e9 : (0 : Int32) = r0 := congrArg (fun z9 => z9) h9
  rw [← e9]
  exact k_zret hx hb hr hlocks hP hS rfl rfl dX2_isOfKind_86

/-! J9_floorMod_f86c9 -/
set_option maxHeartbeats 4000000 in
set_option maxRecDepth 100000 in
theorem c_J9_floorMod_f86c9 (l : Launch) (G : va_G) (cI cJ cD cH : ClassId) (sz : Nat) (p0 : Int64) (p1 : Int64) (r0 : Int64) (hF : F_J9_floorMod_f86c9 p0 p1 = some r0) : Met l yJ9_floorMod_f86c9 wsJ9_floorMod_f86c9 ({ frames := 0, cells := 0, slots := 0, locals := 0 }) (k_pre G (k_T cI cJ cD cH) [] sz [.long p0, .long p1]) (va_Ql (fun r (_ : Unit) => r = r0 ∧ True) (fun _ t => va_P G vwCl [] t.heap) (va_A [] sz)) 0 0 (va_A [] sz) := by
  refine k_ofWF (cc := cJ9_floorMod_f86c9) (maxL := 6) (ret := (some .long)) (by decide +kernel) rfl ?_
  intro p e s m args below meth c s₁ B hml hv
  obtain ⟨rfl, hsz, hP, hK, hD0⟩ := hv
  have hx := B.exec
  have hb := B.bytes
  have hr := B.returns
  have hts := atoms_spec (ws := wsJ9_floorMod_f86c9) B.pre
  have hta : ∀ w ∈ wA, w.before ([.long p0, .long p1] : List Value).toArray s = true := hta_of hts
  have hown : s.vm.findClass RJ9 = some m.cls := findClass_of_methodNamed B.named
  have hlocks := B.notSynchronized
  subst hsz
  have hD := hD0.self (sz := s.heap.size)
  generalize hAe : va_A [] s.heap.size = A at hD ⊢
  have hA : ∀ q : Nat, s.heap.size ≤ q → A q := fun q h => by rw [← hAe]; exact Or.inr h
  have hS : va_S A s.heap s.heap [] := va_S.rf
  have hl := lv_entry ([.long p0, .long p1]) (n := 6) (Nat.le_of_ble_eq_true rfl)
  rw [lg_entry_eq]
  generalize (lg_sl ([.long p0, .long p1]) ++ List.replicate (6 - (lg_sl ([.long p0, .long p1])).length) Slot.unset).toArray = ls at hl ⊢
  have hl : lv_has ls 6 [(0, .long p0), (2, .long p1)] := hl
  have h := hF
  unfold F_J9_floorMod_f86c9 at h
  refine lv_lload_n hx hb dJ9_floorMod_f86c9_0 rfl (lv_at hl 0 rfl) ?_
  refine lv_lload_n hx hb dJ9_floorMod_f86c9_1 rfl (lv_at hl 1 rfl) ?_
  obtain ⟨hz1, h⟩ := dvl_e h
  refine lv_lrem hx hb dJ9_floorMod_f86c9_2 hz1 ?_
  refine lv_lstore (lv' := [(4, .long (p0 - p0 / p1 * p1)), (0, .long p0), (2, .long p1)]) hx hb dJ9_floorMod_f86c9_3 hl (by decide) rfl (fun ls hl => ?_)
  refine lv_lload_n hx hb dJ9_floorMod_f86c9_5 rfl (lv_at hl 1 rfl) ?_
  refine lv_lload_n hx hb dJ9_floorMod_f86c9_6 rfl (lv_at hl 2 rfl) ?_
  refine lv_lxor hx hb dJ9_floorMod_f86c9_7 ?_
  refine lv_lconst (v := (0 : Int64)) hx hb dJ9_floorMod_f86c9_8 (by decide) ?_
  refine W.lcmp hx hb dJ9_floorMod_f86c9_9 ?_
  refine lv_if_ge (tgt := 25) hx hb dJ9_floorMod_f86c9_10 (by decide) (fun c2 => ?_) (fun c2 => ?_)
  · have h := it_p h c2
    refine lv_lload hx hb dJ9_floorMod_f86c9_25 (lv_at hl 0 rfl) ?_
    have h9 := Option.some.inj h
    have e9 : (p0 - p0 / p1 * p1) = r0 := congrArg (fun z9 => z9) h9
    rw [← e9]
    exact k_lret hx hb hr hlocks hP hS rfl dJ9_floorMod_f86c9_27
  have h := it_n h c2
  refine lv_lload hx hb dJ9_floorMod_f86c9_13 (lv_at hl 0 rfl) ?_
  refine lv_lconst (v := (0 : Int64)) hx hb dJ9_floorMod_f86c9_15 (by decide) ?_
  refine W.lcmp hx hb dJ9_floorMod_f86c9_16 ?_
  refine lv_if_eq (tgt := 25) hx hb dJ9_floorMod_f86c9_17 (by decide) (fun c3 => ?_) (fun c3 => ?_)
  · have h := it_p h c3
    refine lv_lload hx hb dJ9_floorMod_f86c9_25 (lv_at hl 0 rfl) ?_
    have h9 := Option.some.inj h
    have e9 : (p0 - p0 / p1 * p1) = r0 := congrArg (fun z9 => z9) h9
    rw [← e9]
    exact k_lret hx hb hr hlocks hP hS rfl dJ9_floorMod_f86c9_27
  have h := it_n h c3
  refine lv_lload hx hb dJ9_floorMod_f86c9_20 (lv_at hl 0 rfl) ?_
  refine lv_lload_n hx hb dJ9_floorMod_f86c9_22 rfl (lv_at hl 2 rfl) ?_
  refine lv_ladd hx hb dJ9_floorMod_f86c9_23 ?_
  have h9 := Option.some.inj h
  have e9 : ((p0 - p0 / p1 * p1) + p1) = r0 := congrArg (fun z9 => z9) h9
  rw [← e9]
  exact k_lret hx hb hr hlocks hP hS rfl dJ9_floorMod_f86c9_24

/-! X2_takenFor -/
set_option maxHeartbeats 4000000 in
set_option maxRecDepth 100000 in
theorem c_X2_takenFor (l : Launch) (G : va_G) (cI cJ cD cH : ClassId) (sz : Nat) (h_t : Nat) (h_t_ints : Nat) (t_sort : Int32) (t_tree : Int64) (t_limit : Int32) (t_above : Int64) (t_size : Int32) (p0 : Int32) (r0 : Int32) (hF : F_X2_takenFor t_tree t_limit t_above p0 = some r0) : Met l yX2_takenFor wsX2_takenFor ({ frames := 2, cells := 0, slots := 0, locals := 42 }) (k_pre G (k_T cI cJ cD cH) [(h_t, .inr (2, [.int t_sort, .long t_tree, .int t_limit, .ref h_t_ints, .long t_above, .int t_size]))] sz [.ref h_t, .int p0]) (va_Qi (fun r (_ : Unit) => r = r0 ∧ True) (fun _ t => va_P G vwCl [(h_t, .inr (2, [.int t_sort, .long t_tree, .int t_limit, .ref h_t_ints, .long t_above, .int t_size]))] t.heap) (va_A [(h_t, .inr (2, [.int t_sort, .long t_tree, .int t_limit, .ref h_t_ints, .long t_above, .int t_size]))] sz)) 0 0 (va_A [(h_t, .inr (2, [.int t_sort, .long t_tree, .int t_limit, .ref h_t_ints, .long t_above, .int t_size]))] sz) := by
  refine Met.ofW (cc := cX2_takenFor) (maxL := 2) (ret := (some .int)) (by decide) rfl ?_
  intro p e s m args below meth c s₁ B hml hv
  obtain ⟨rfl, hsz, hP, hK, hD0⟩ := hv
  have hx := B.exec
  have hb := B.bytes
  have hr := B.returns
  have hts := atoms_spec (ws := wsX2_takenFor) B.pre
  have hta : ∀ w ∈ wA, w.before ([.ref h_t, .int p0] : List Value).toArray s = true := hta_of hts
  have hown : s.vm.findClass RX2 = some m.cls := findClass_of_methodNamed B.named
  have hlocks := B.notSynchronized
  subst hsz
  have hD := hD0.self (sz := s.heap.size)
  generalize hAe : va_A [(h_t, .inr (2, [.int t_sort, .long t_tree, .int t_limit, .ref h_t_ints, .long t_above, .int t_size]))] s.heap.size = A at hD ⊢
  have hA : ∀ q : Nat, s.heap.size ≤ q → A q := fun q h => by rw [← hAe]; exact Or.inr h
  have hS : va_S A s.heap s.heap [] := va_S.rf
  have hl := lv_entry ([.ref h_t, .int p0]) (n := 2) (Nat.le_of_ble_eq_true rfl)
  rw [lg_entry_eq]
  generalize (lg_sl ([.ref h_t, .int p0]) ++ List.replicate (2 - (lg_sl ([.ref h_t, .int p0])).length) Slot.unset).toArray = ls at hl ⊢
  have hl : lv_has ls 2 [(0, .ref h_t), (1, .int p0)] := hl
  have hinX2 : ∀ w ∈ wsX20, w ∈ wsX2_takenFor := hin_of in_X2
  have h := hF
  unfold F_X2_takenFor at h
  refine lv_iload_n hx hb dX2_takenFor_0 rfl (lv_at hl 1 rfl) ?_
  by_cases c1 : p0 = (0 : Int32)
  · have h := it_p h c1
    refine lv_lookup (tgt := 28) hx hb dX2_takenFor_1 (by decide) (off := 27) (by rw [c1]; decide) (by decide) ?_
    refine lv_aload_n hx hb dX2_takenFor_28 rfl (lv_at hl 0 rfl) ?_
    refine va_get (D := G) (ci := 2) (v := .long t_above) (C := RX2) (T := TX2) (N := 6) hx hb hts hinX2 hown hK hP 0 rfl rfl 4 (by decide) (hta _ mw_70) (fun _ h9 => h9) rfl dX2_takenFor_29 ?_
    refine lv_ldc2 (v := (1000003 : Int64)) hx hb hown (hta _ mw_95) dX2_takenFor_32 ?_
    obtain ⟨x2, hx2, h⟩ := bd_e h
    try dsimp only at h
    refine k_SlU (n := 2) (As := [.long t_above, .long (1000003 : Int64)]) (rest := []) hx hb hml hown hts (c_J9_floorMod_f86c9 l G cI cJ cD cH s.heap.size t_above (1000003 : Int64) x2 hx2) gX2_takenFor_J9_floorMod_f86c9 rfl rfl rfl (by decide +kernel) ⟨by first | exact Nat.le_of_ble_eq_true rfl | (simp only [headSpec]; omega), by first | exact Nat.le_of_ble_eq_true rfl | (simp only [headSpec]; omega)⟩ hK hP hD hS hA [] (by decide) rfl rfl rfl hl.1 (Nat.le_of_ble_eq_true rfl) dX2_takenFor_35 ⟨Nat.zero_le _, Nat.zero_le _⟩ (fun hp2 H locs hP hS => ?_)
    refine lv_l2i (v := x2.toInt32) hx hb dX2_takenFor_38 rfl ?_
    have h9 := Option.some.inj h
    have e9 : x2.toInt32 = r0 := congrArg (fun z9 => z9) h9
    rw [← e9]
    exact k_iret hx hb hr hlocks hP hS rfl dX2_takenFor_39
  have h := it_n h c1
  by_cases c3 : p0 = (1 : Int32)
  · have h := it_p h c3
    refine lv_lookup (tgt := 40) hx hb dX2_takenFor_1 (by decide) (off := 39) (by rw [c3]; decide) (by decide) ?_
    refine lv_aload_n hx hb dX2_takenFor_40 rfl (lv_at hl 0 rfl) ?_
    refine va_get (D := G) (ci := 2) (v := .long t_tree) (C := RX2) (T := TX2) (N := 6) hx hb hts hinX2 hown hK hP 0 rfl rfl 1 (by decide) (hta _ mw_72) (fun _ h9 => h9) rfl dX2_takenFor_41 ?_
    obtain ⟨x4, hx4, h⟩ := bd_e h
    try dsimp only at h
    refine k_SiU (n := 1) (As := [.long t_tree]) (rest := []) hx hb hml hown hts (c_X6_sizeOf l G cI cJ cD cH s.heap.size t_tree x4 hx4) gX2_takenFor_X6_sizeOf rfl rfl rfl (by decide +kernel) ⟨by first | exact Nat.le_of_ble_eq_true rfl | (simp only [headSpec]; omega), by first | exact Nat.le_of_ble_eq_true rfl | (simp only [headSpec]; omega)⟩ hK hP hD hS hA [] (by decide) rfl rfl rfl hl.1 (Nat.le_of_ble_eq_true rfl) dX2_takenFor_44 ⟨Nat.zero_le _, Nat.zero_le _⟩ (fun hp4 H locs hP hS => ?_)
    have h9 := Option.some.inj h
    have e9 : x4 = r0 := congrArg (fun z9 => z9) h9
    rw [← e9]
    exact k_iret hx hb hr hlocks hP hS rfl dX2_takenFor_47
  have h := it_n h c3
  refine lv_lookup (tgt := 48) hx hb dX2_takenFor_1 (by decide) (off := 47) (k_lout2 c1 c3) (by decide) ?_
  refine lv_aload_n hx hb dX2_takenFor_48 rfl (lv_at hl 0 rfl) ?_
  refine va_get (D := G) (ci := 2) (v := .int t_limit) (C := RX2) (T := TX2) (N := 6) hx hb hts hinX2 hown hK hP 0 rfl rfl 2 (by decide) (hta _ mw_73) (fun _ h9 => h9) rfl dX2_takenFor_49 ?_
  have h9 := Option.some.inj h
  have e9 : t_limit = r0 := congrArg (fun z9 => z9) h9
  rw [← e9]
  exact k_iret hx hb hr hlocks hP hS rfl dX2_takenFor_52

/-! X6_nth -/
set_option maxHeartbeats 4000000 in
set_option maxRecDepth 100000 in
theorem tK_X6_nth_19_37 {l : Launch} {G : va_G} {cI cJ cD cH : ClassId} {p0 : Int64} {p1 : Int32} {r0 : Int32} {p : Program} {e : Env} {s : State} {m : MethodId} {below : List Frame} {meth : Method} {c : Code} {A : Nat → Prop} (hx : p.tables.exec = Jvm.exec) (hb : c.code = cX6_nth) (hr : meth.sig.returnType = (some .int)) (hml : c.maxLocals = 6) (hts : ∀ w ∈ wsX6_nth, w.before ([.long p0, .int p1] : List Value).toArray s = true) (hown : s.vm.findClass RX6 = some m.cls) (hlocks : meth.locks = false) (hK : va_K G vwCl (k_T cI cJ cD cH) s) (hA : ∀ q : Nat, s.heap.size ≤ q → A q) : ∀  (vK19_37_0 : Int64) (H : Heap) (locs : List Loc) (ls : Array Slot), va_P G vwCl [] H → va_D A [] → va_S A s.heap H locs → lv_has ls 6 [(3, .long vK19_37_0)] → K_X6_nth_19_37 vK19_37_0 = some r0 → W p l e (headSpec wsX6_nth ({ frames := 1, cells := 0, slots := 0, locals := 21 })).room s m ([.long p0, .int p1] : List Value).toArray below meth c H locs 0 0 (MQ below (va_Qi (fun r (_ : Unit) => r = r0 ∧ True) (fun _ t => va_P G vwCl [] t.heap) A) ([.long p0, .int p1] : List Value).toArray s 0 0 A) (F0 m 37 ls []) := by
  have hta : ∀ w ∈ wA, w.before ([.long p0, .int p1] : List Value).toArray s = true := hta_of hts
  intro vK19_37_0 H locs ls hP hD hS hl h
  unfold K_X6_nth_19_37 at h
  refine lv_lload_n hx hb dX6_nth_37 rfl (lv_at hl 0 rfl) ?_
  refine lv_lload_n hx hb dX6_nth_38 rfl (lv_at hl 0 rfl) ?_
  refine lv_lneg hx hb dX6_nth_39 ?_
  refine lv_land hx hb dX6_nth_40 ?_
  refine lv_lconst (v := (1 : Int64)) hx hb dX6_nth_41 (by decide) ?_
  refine lv_lsub hx hb dX6_nth_42 ?_
  obtain ⟨x4, hx4, h⟩ := bd_e h
  try dsimp only at h
  refine k_SiU (n := 1) (As := [.long ((vK19_37_0 &&& (-vK19_37_0)) - (1 : Int64))]) (rest := []) hx hb hml hown hts (c_J13_bitCount_95d88 l G cI cJ cD cH H.size ((vK19_37_0 &&& (-vK19_37_0)) - (1 : Int64)) x4 hx4) gX6_nth_J13_bitCount_95d88 rfl rfl rfl (by decide +kernel) ⟨by first | exact Nat.le_of_ble_eq_true rfl | (simp only [headSpec]; omega), by first | exact Nat.le_of_ble_eq_true rfl | (simp only [headSpec]; omega)⟩ hK hP hD hS hA [] (by decide) rfl rfl rfl hl.1 (Nat.le_of_ble_eq_true rfl) dX6_nth_43 ⟨Nat.zero_le _, Nat.zero_le _⟩ (fun hp4 H locs hP hS => ?_)
  have h9 := Option.some.inj h
  have e9 : x4 = r0 := congrArg (fun z9 => z9) h9
  rw [← e9]
  exact k_iret hx hb hr hlocks hP hS rfl dX6_nth_46
set_option maxHeartbeats 4000000 in
set_option maxRecDepth 100000 in
theorem c_X6_nth (l : Launch) (G : va_G) (cI cJ cD cH : ClassId) (sz : Nat) (p0 : Int64) (p1 : Int32) (r0 : Int32) (hF : F_X6_nth p0 p1 = some r0) : Met l yX6_nth wsX6_nth ({ frames := 1, cells := 0, slots := 0, locals := 21 }) (k_pre G (k_T cI cJ cD cH) [] sz [.long p0, .int p1]) (va_Qi (fun r (_ : Unit) => r = r0 ∧ True) (fun _ t => va_P G vwCl [] t.heap) (va_A [] sz)) 0 0 (va_A [] sz) := by
  refine Met.ofW (cc := cX6_nth) (maxL := 6) (ret := (some .int)) (by decide) rfl ?_
  intro p e s m args below meth c s₁ B hml hv
  obtain ⟨rfl, hsz, hP, hK, hD0⟩ := hv
  have hx := B.exec
  have hb := B.bytes
  have hr := B.returns
  have hts := atoms_spec (ws := wsX6_nth) B.pre
  have hta : ∀ w ∈ wA, w.before ([.long p0, .int p1] : List Value).toArray s = true := hta_of hts
  have hown : s.vm.findClass RX6 = some m.cls := findClass_of_methodNamed B.named
  have hlocks := B.notSynchronized
  subst hsz
  have hD := hD0.self (sz := s.heap.size)
  generalize hAe : va_A [] s.heap.size = A at hD ⊢
  have hA : ∀ q : Nat, s.heap.size ≤ q → A q := fun q h => by rw [← hAe]; exact Or.inr h
  have hS : va_S A s.heap s.heap [] := va_S.rf
  have hl := lv_entry ([.long p0, .int p1]) (n := 6) (Nat.le_of_ble_eq_true rfl)
  rw [lg_entry_eq]
  generalize (lg_sl ([.long p0, .int p1]) ++ List.replicate (6 - (lg_sl ([.long p0, .int p1])).length) Slot.unset).toArray = ls at hl ⊢
  have hl : lv_has ls 6 [(0, .long p0), (2, .int p1)] := hl
  have h := hF
  unfold F_X6_nth at h
  refine lv_iload_n hx hb dX6_nth_0 rfl (lv_at hl 1 rfl) ?_
  refine lv_if_lt (tgt := 12) hx hb dX6_nth_1 (by decide) (fun c1 => ?_) (fun c1 => ?_)
  · have h := it_p h c1
    refine lv_iconst (v := (-1 : Int32)) hx hb dX6_nth_12 (by decide) ?_
    have h9 := Option.some.inj h
    have e9 : (-1 : Int32) = r0 := congrArg (fun z9 => z9) h9
    rw [← e9]
    exact k_iret hx hb hr hlocks hP hS rfl dX6_nth_13
  have h := it_n h c1
  refine lv_iload_n hx hb dX6_nth_4 rfl (lv_at hl 1 rfl) ?_
  refine lv_lload_n hx hb dX6_nth_5 rfl (lv_at hl 0 rfl) ?_
  obtain ⟨x2, hx2, h⟩ := bd_e h
  try dsimp only at h
  refine k_SiU (n := 1) (As := [.long p0]) (rest := [.int p1]) hx hb hml hown hts (c_J13_bitCount_95d88 l G cI cJ cD cH s.heap.size p0 x2 hx2) gX6_nth_J13_bitCount_95d88 rfl rfl rfl (by decide +kernel) ⟨by first | exact Nat.le_of_ble_eq_true rfl | (simp only [headSpec]; omega), by first | exact Nat.le_of_ble_eq_true rfl | (simp only [headSpec]; omega)⟩ hK hP hD hS hA [] (by decide) rfl rfl rfl hl.1 (Nat.le_of_ble_eq_true rfl) dX6_nth_6 ⟨Nat.zero_le _, Nat.zero_le _⟩ (fun hp2 H locs hP hS => ?_)
  refine lv_icmp_lt (tgt := 14) hx hb dX6_nth_9 (by decide) (fun c3 => ?_) (fun c3 => ?_)
  rotate_left
  · have h := it_n h c3
    refine lv_iconst (v := (-1 : Int32)) hx hb dX6_nth_12 (by decide) ?_
    have h9 := Option.some.inj h
    have e9 : (-1 : Int32) = r0 := congrArg (fun z9 => z9) h9
    rw [← e9]
    exact k_iret hx hb hr hlocks hP hS rfl dX6_nth_13
  have h := it_p h c3
  refine lv_lload_n hx hb dX6_nth_14 rfl (lv_at hl 0 rfl) ?_
  refine lv_lstore_n (lv' := [(3, .long p0), (0, .long p0), (2, .int p1)]) hx hb dX6_nth_15 rfl hl (by decide) rfl (fun ls hl => ?_)
  refine lv_iconst (v := (0 : Int32)) hx hb dX6_nth_16 (by decide) ?_
  refine lv_istore (lv' := [(5, .int (0 : Int32)), (3, .long p0), (0, .long p0), (2, .int p1)]) hx hb dX6_nth_17 hl (by decide) rfl (fun ls hl => ?_)
  have hL19 : ∀ (n19 : Nat) (vL19_0 : Int64) (vL19_1 : Int32) (H : Heap) (locs : List Loc) (ls : Array Slot), va_P G vwCl [] H → va_D A [] → va_S A s.heap H locs → lv_has ls 6 [(2, .int p1), (3, .long vL19_0), (5, .int vL19_1)] → wq2 (B_X6_nth_19 p1 K_X6_nth_19_37) n19 vL19_0 vL19_1 = some r0 → W p l e (headSpec wsX6_nth ({ frames := 1, cells := 0, slots := 0, locals := 21 })).room s m ([.long p0, .int p1] : List Value).toArray below meth c H locs 0 0 (MQ below (va_Qi (fun r (_ : Unit) => r = r0 ∧ True) (fun _ t => va_P G vwCl [] t.heap) A) ([.long p0, .int p1] : List Value).toArray s 0 0 A) (F0 m 19 ls []) := by
    intro n19
    induction n19 with
    | zero => intro vL19_0 vL19_1 H locs ls hP hD hS hl h; exact wq2_0 h
    | succ n19 ih19 =>
      intro vL19_0 vL19_1 H locs ls hP hD hS hl h
      have h := wq2_s h
      unfold B_X6_nth_19 at h
      refine lv_iload hx hb dX6_nth_19 (lv_at hl 2 rfl) ?_
      refine lv_iload_n hx hb dX6_nth_21 rfl (lv_at hl 0 rfl) ?_
      refine lv_icmp_ge (tgt := 37) hx hb dX6_nth_22 (by decide) (fun c5 => ?_) (fun c5 => ?_)
      · have h := it_p h c5
        exact tK_X6_nth_19_37 hx hb hr hml hts hown hlocks hK hA vL19_0 _ _ _ hP hD hS (lv_sub hl [1] rfl) h
      have h := it_n h c5
      refine lv_lload_n hx hb dX6_nth_25 rfl (lv_at hl 1 rfl) ?_
      refine lv_lload_n hx hb dX6_nth_26 rfl (lv_at hl 1 rfl) ?_
      refine lv_lconst (v := (1 : Int64)) hx hb dX6_nth_27 (by decide) ?_
      refine lv_lsub hx hb dX6_nth_28 ?_
      refine lv_land hx hb dX6_nth_29 ?_
      refine lv_lstore_n (lv' := [(3, .long (vL19_0 &&& (vL19_0 - (1 : Int64)))), (2, .int p1), (5, .int vL19_1)]) hx hb dX6_nth_30 rfl hl (by decide) rfl (fun ls hl => ?_)
      refine lv_iinc (v := (vL19_1 + (1 : Int32))) (lv' := [(5, .int (vL19_1 + (1 : Int32))), (3, .long (vL19_0 &&& (vL19_0 - (1 : Int64)))), (2, .int p1)]) hx hb dX6_nth_31 hl (k := 2) rfl (by first | rfl | decide) (by decide) rfl (fun ls hl => ?_)
      refine lv_goto (tgt := 19) hx hb dX6_nth_34 (by decide) ?_
      exact ih19 (vL19_0 &&& (vL19_0 - (1 : Int64))) (vL19_1 + (1 : Int32)) _ _ _ hP hD hS (lv_sub hl [2, 1, 0] rfl) h
  exact hL19 FU p0 (0 : Int32) _ _ _ hP hD hS (lv_sub hl [3, 1, 0] rfl) h
