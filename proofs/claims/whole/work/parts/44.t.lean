/-! X8_again -/
set_option maxHeartbeats 40000000 in
set_option maxRecDepth 100000 in
theorem c_X8_again (l : Launch) (G : va_G) (cI cJ cD cH : ClassId) (sz : Nat) (h_t : Nat) (h_t_deeds : Nat) (h_t_desk : Nat) (h_t_deeds_desks : Nat) (h_t_desk_powers : Nat) (h_t_imageDesk : Nat) (h_t_numbers : Nat) (h_t_tape : Nat) (h_t_reader : Nat) (h_t_speller : Nat) (h_t_holders : Nat) (d_t_deeds_desks : Nat → Nat) (q_t_deeds_desks : Nat → Nat) (a_t_deeds_desks : Nat → Nat → Int32) (t_deeds_desks_genus : Nat → Int32) (t_deeds_desks_size : Nat → Int32) (t_deeds_desks_limit : Nat → Int32) (t_deeds_desks_tree : Nat → Int64) (t_imageKept : Int32) (t_deeds_now : Int32) (t_deeds_last : Int32) (t_desk_genus : Int32) (t_desk_size : Int32) (t_desk_limit : Int32) (t_desk_tree : Int64) (a_t_desk_powers : Nat → Int32) (r0 : Int32) (w0 : Nat → Int32) (w1 : Int32) (w2 : Int32) (w3 : Int32) (w4 : Int32) (w5 : Int64) (hF : F_X8_again a_t_deeds_desks t_deeds_desks_genus t_deeds_desks_size t_deeds_desks_limit t_deeds_desks_tree t_deeds_now t_deeds_last t_desk_genus t_desk_size t_desk_limit t_desk_tree a_t_desk_powers = some (r0, w0, w1, w2, w3, w4, w5)) : Met l yX8_again wsX8_again ({ frames := 2, cells := 0, slots := 0, locals := 43 }) (k_pre G (k_T cI cJ cD cH) [(h_t, .inr (7, [.ref h_t_desk, .ref h_t_imageDesk, .ref h_t_deeds, .ref h_t_numbers, .ref h_t_tape, .ref h_t_reader, .ref h_t_speller, .ref h_t_holders, .int t_imageKept])), (h_t_deeds, .inr (0, [.ref h_t_deeds_desks, .int t_deeds_now, .int t_deeds_last])), (h_t_desk, .inr (1, [.int t_desk_genus, .int t_desk_size, .ref h_t_desk_powers, .int t_desk_limit, .long t_desk_tree])), (h_t_deeds_desks, .inl (cD, 9, .inr (.inr (.inr (.inr (fun i => some (d_t_deeds_desks i))))))), ((d_t_deeds_desks 0), .inr (1, [.int (t_deeds_desks_genus 0), .int (t_deeds_desks_size 0), .ref (q_t_deeds_desks 0), .int (t_deeds_desks_limit 0), .long (t_deeds_desks_tree 0)])), ((q_t_deeds_desks 0), .inl (cI, 8, .inl (a_t_deeds_desks 0))), ((d_t_deeds_desks 1), .inr (1, [.int (t_deeds_desks_genus 1), .int (t_deeds_desks_size 1), .ref (q_t_deeds_desks 1), .int (t_deeds_desks_limit 1), .long (t_deeds_desks_tree 1)])), ((q_t_deeds_desks 1), .inl (cI, 8, .inl (a_t_deeds_desks 1))), ((d_t_deeds_desks 2), .inr (1, [.int (t_deeds_desks_genus 2), .int (t_deeds_desks_size 2), .ref (q_t_deeds_desks 2), .int (t_deeds_desks_limit 2), .long (t_deeds_desks_tree 2)])), ((q_t_deeds_desks 2), .inl (cI, 8, .inl (a_t_deeds_desks 2))), ((d_t_deeds_desks 3), .inr (1, [.int (t_deeds_desks_genus 3), .int (t_deeds_desks_size 3), .ref (q_t_deeds_desks 3), .int (t_deeds_desks_limit 3), .long (t_deeds_desks_tree 3)])), ((q_t_deeds_desks 3), .inl (cI, 8, .inl (a_t_deeds_desks 3))), ((d_t_deeds_desks 4), .inr (1, [.int (t_deeds_desks_genus 4), .int (t_deeds_desks_size 4), .ref (q_t_deeds_desks 4), .int (t_deeds_desks_limit 4), .long (t_deeds_desks_tree 4)])), ((q_t_deeds_desks 4), .inl (cI, 8, .inl (a_t_deeds_desks 4))), ((d_t_deeds_desks 5), .inr (1, [.int (t_deeds_desks_genus 5), .int (t_deeds_desks_size 5), .ref (q_t_deeds_desks 5), .int (t_deeds_desks_limit 5), .long (t_deeds_desks_tree 5)])), ((q_t_deeds_desks 5), .inl (cI, 8, .inl (a_t_deeds_desks 5))), ((d_t_deeds_desks 6), .inr (1, [.int (t_deeds_desks_genus 6), .int (t_deeds_desks_size 6), .ref (q_t_deeds_desks 6), .int (t_deeds_desks_limit 6), .long (t_deeds_desks_tree 6)])), ((q_t_deeds_desks 6), .inl (cI, 8, .inl (a_t_deeds_desks 6))), ((d_t_deeds_desks 7), .inr (1, [.int (t_deeds_desks_genus 7), .int (t_deeds_desks_size 7), .ref (q_t_deeds_desks 7), .int (t_deeds_desks_limit 7), .long (t_deeds_desks_tree 7)])), ((q_t_deeds_desks 7), .inl (cI, 8, .inl (a_t_deeds_desks 7))), ((d_t_deeds_desks 8), .inr (1, [.int (t_deeds_desks_genus 8), .int (t_deeds_desks_size 8), .ref (q_t_deeds_desks 8), .int (t_deeds_desks_limit 8), .long (t_deeds_desks_tree 8)])), ((q_t_deeds_desks 8), .inl (cI, 8, .inl (a_t_deeds_desks 8))), (h_t_desk_powers, .inl (cI, 8, .inl a_t_desk_powers))] sz [.ref h_t]) (va_Qi (fun r (_ : Unit) => r = r0 ∧ True) (fun _ t => va_P G vwCl [(h_t, .inr (7, [.ref h_t_desk, .ref h_t_imageDesk, .ref h_t_deeds, .ref h_t_numbers, .ref h_t_tape, .ref h_t_reader, .ref h_t_speller, .ref h_t_holders, .int t_imageKept])), (h_t_deeds, .inr (0, [.ref h_t_deeds_desks, .int w1, .int t_deeds_last])), (h_t_desk, .inr (1, [.int w2, .int w3, .ref h_t_desk_powers, .int w4, .long w5])), (h_t_deeds_desks, .inl (cD, 9, .inr (.inr (.inr (.inr (fun i => some (d_t_deeds_desks i))))))), ((d_t_deeds_desks 0), .inr (1, [.int (t_deeds_desks_genus 0), .int (t_deeds_desks_size 0), .ref (q_t_deeds_desks 0), .int (t_deeds_desks_limit 0), .long (t_deeds_desks_tree 0)])), ((q_t_deeds_desks 0), .inl (cI, 8, .inl (a_t_deeds_desks 0))), ((d_t_deeds_desks 1), .inr (1, [.int (t_deeds_desks_genus 1), .int (t_deeds_desks_size 1), .ref (q_t_deeds_desks 1), .int (t_deeds_desks_limit 1), .long (t_deeds_desks_tree 1)])), ((q_t_deeds_desks 1), .inl (cI, 8, .inl (a_t_deeds_desks 1))), ((d_t_deeds_desks 2), .inr (1, [.int (t_deeds_desks_genus 2), .int (t_deeds_desks_size 2), .ref (q_t_deeds_desks 2), .int (t_deeds_desks_limit 2), .long (t_deeds_desks_tree 2)])), ((q_t_deeds_desks 2), .inl (cI, 8, .inl (a_t_deeds_desks 2))), ((d_t_deeds_desks 3), .inr (1, [.int (t_deeds_desks_genus 3), .int (t_deeds_desks_size 3), .ref (q_t_deeds_desks 3), .int (t_deeds_desks_limit 3), .long (t_deeds_desks_tree 3)])), ((q_t_deeds_desks 3), .inl (cI, 8, .inl (a_t_deeds_desks 3))), ((d_t_deeds_desks 4), .inr (1, [.int (t_deeds_desks_genus 4), .int (t_deeds_desks_size 4), .ref (q_t_deeds_desks 4), .int (t_deeds_desks_limit 4), .long (t_deeds_desks_tree 4)])), ((q_t_deeds_desks 4), .inl (cI, 8, .inl (a_t_deeds_desks 4))), ((d_t_deeds_desks 5), .inr (1, [.int (t_deeds_desks_genus 5), .int (t_deeds_desks_size 5), .ref (q_t_deeds_desks 5), .int (t_deeds_desks_limit 5), .long (t_deeds_desks_tree 5)])), ((q_t_deeds_desks 5), .inl (cI, 8, .inl (a_t_deeds_desks 5))), ((d_t_deeds_desks 6), .inr (1, [.int (t_deeds_desks_genus 6), .int (t_deeds_desks_size 6), .ref (q_t_deeds_desks 6), .int (t_deeds_desks_limit 6), .long (t_deeds_desks_tree 6)])), ((q_t_deeds_desks 6), .inl (cI, 8, .inl (a_t_deeds_desks 6))), ((d_t_deeds_desks 7), .inr (1, [.int (t_deeds_desks_genus 7), .int (t_deeds_desks_size 7), .ref (q_t_deeds_desks 7), .int (t_deeds_desks_limit 7), .long (t_deeds_desks_tree 7)])), ((q_t_deeds_desks 7), .inl (cI, 8, .inl (a_t_deeds_desks 7))), ((d_t_deeds_desks 8), .inr (1, [.int (t_deeds_desks_genus 8), .int (t_deeds_desks_size 8), .ref (q_t_deeds_desks 8), .int (t_deeds_desks_limit 8), .long (t_deeds_desks_tree 8)])), ((q_t_deeds_desks 8), .inl (cI, 8, .inl (a_t_deeds_desks 8))), (h_t_desk_powers, .inl (cI, 8, .inl w0))] t.heap) (va_A [(h_t, .inr (7, [.ref h_t_desk, .ref h_t_imageDesk, .ref h_t_deeds, .ref h_t_numbers, .ref h_t_tape, .ref h_t_reader, .ref h_t_speller, .ref h_t_holders, .int t_imageKept])), (h_t_deeds, .inr (0, [.ref h_t_deeds_desks, .int t_deeds_now, .int t_deeds_last])), (h_t_desk, .inr (1, [.int t_desk_genus, .int t_desk_size, .ref h_t_desk_powers, .int t_desk_limit, .long t_desk_tree])), (h_t_deeds_desks, .inl (cD, 9, .inr (.inr (.inr (.inr (fun i => some (d_t_deeds_desks i))))))), ((d_t_deeds_desks 0), .inr (1, [.int (t_deeds_desks_genus 0), .int (t_deeds_desks_size 0), .ref (q_t_deeds_desks 0), .int (t_deeds_desks_limit 0), .long (t_deeds_desks_tree 0)])), ((q_t_deeds_desks 0), .inl (cI, 8, .inl (a_t_deeds_desks 0))), ((d_t_deeds_desks 1), .inr (1, [.int (t_deeds_desks_genus 1), .int (t_deeds_desks_size 1), .ref (q_t_deeds_desks 1), .int (t_deeds_desks_limit 1), .long (t_deeds_desks_tree 1)])), ((q_t_deeds_desks 1), .inl (cI, 8, .inl (a_t_deeds_desks 1))), ((d_t_deeds_desks 2), .inr (1, [.int (t_deeds_desks_genus 2), .int (t_deeds_desks_size 2), .ref (q_t_deeds_desks 2), .int (t_deeds_desks_limit 2), .long (t_deeds_desks_tree 2)])), ((q_t_deeds_desks 2), .inl (cI, 8, .inl (a_t_deeds_desks 2))), ((d_t_deeds_desks 3), .inr (1, [.int (t_deeds_desks_genus 3), .int (t_deeds_desks_size 3), .ref (q_t_deeds_desks 3), .int (t_deeds_desks_limit 3), .long (t_deeds_desks_tree 3)])), ((q_t_deeds_desks 3), .inl (cI, 8, .inl (a_t_deeds_desks 3))), ((d_t_deeds_desks 4), .inr (1, [.int (t_deeds_desks_genus 4), .int (t_deeds_desks_size 4), .ref (q_t_deeds_desks 4), .int (t_deeds_desks_limit 4), .long (t_deeds_desks_tree 4)])), ((q_t_deeds_desks 4), .inl (cI, 8, .inl (a_t_deeds_desks 4))), ((d_t_deeds_desks 5), .inr (1, [.int (t_deeds_desks_genus 5), .int (t_deeds_desks_size 5), .ref (q_t_deeds_desks 5), .int (t_deeds_desks_limit 5), .long (t_deeds_desks_tree 5)])), ((q_t_deeds_desks 5), .inl (cI, 8, .inl (a_t_deeds_desks 5))), ((d_t_deeds_desks 6), .inr (1, [.int (t_deeds_desks_genus 6), .int (t_deeds_desks_size 6), .ref (q_t_deeds_desks 6), .int (t_deeds_desks_limit 6), .long (t_deeds_desks_tree 6)])), ((q_t_deeds_desks 6), .inl (cI, 8, .inl (a_t_deeds_desks 6))), ((d_t_deeds_desks 7), .inr (1, [.int (t_deeds_desks_genus 7), .int (t_deeds_desks_size 7), .ref (q_t_deeds_desks 7), .int (t_deeds_desks_limit 7), .long (t_deeds_desks_tree 7)])), ((q_t_deeds_desks 7), .inl (cI, 8, .inl (a_t_deeds_desks 7))), ((d_t_deeds_desks 8), .inr (1, [.int (t_deeds_desks_genus 8), .int (t_deeds_desks_size 8), .ref (q_t_deeds_desks 8), .int (t_deeds_desks_limit 8), .long (t_deeds_desks_tree 8)])), ((q_t_deeds_desks 8), .inl (cI, 8, .inl (a_t_deeds_desks 8))), (h_t_desk_powers, .inl (cI, 8, .inl a_t_desk_powers))] sz)) 0 0 (va_A [(h_t, .inr (7, [.ref h_t_desk, .ref h_t_imageDesk, .ref h_t_deeds, .ref h_t_numbers, .ref h_t_tape, .ref h_t_reader, .ref h_t_speller, .ref h_t_holders, .int t_imageKept])), (h_t_deeds, .inr (0, [.ref h_t_deeds_desks, .int t_deeds_now, .int t_deeds_last])), (h_t_desk, .inr (1, [.int t_desk_genus, .int t_desk_size, .ref h_t_desk_powers, .int t_desk_limit, .long t_desk_tree])), (h_t_deeds_desks, .inl (cD, 9, .inr (.inr (.inr (.inr (fun i => some (d_t_deeds_desks i))))))), ((d_t_deeds_desks 0), .inr (1, [.int (t_deeds_desks_genus 0), .int (t_deeds_desks_size 0), .ref (q_t_deeds_desks 0), .int (t_deeds_desks_limit 0), .long (t_deeds_desks_tree 0)])), ((q_t_deeds_desks 0), .inl (cI, 8, .inl (a_t_deeds_desks 0))), ((d_t_deeds_desks 1), .inr (1, [.int (t_deeds_desks_genus 1), .int (t_deeds_desks_size 1), .ref (q_t_deeds_desks 1), .int (t_deeds_desks_limit 1), .long (t_deeds_desks_tree 1)])), ((q_t_deeds_desks 1), .inl (cI, 8, .inl (a_t_deeds_desks 1))), ((d_t_deeds_desks 2), .inr (1, [.int (t_deeds_desks_genus 2), .int (t_deeds_desks_size 2), .ref (q_t_deeds_desks 2), .int (t_deeds_desks_limit 2), .long (t_deeds_desks_tree 2)])), ((q_t_deeds_desks 2), .inl (cI, 8, .inl (a_t_deeds_desks 2))), ((d_t_deeds_desks 3), .inr (1, [.int (t_deeds_desks_genus 3), .int (t_deeds_desks_size 3), .ref (q_t_deeds_desks 3), .int (t_deeds_desks_limit 3), .long (t_deeds_desks_tree 3)])), ((q_t_deeds_desks 3), .inl (cI, 8, .inl (a_t_deeds_desks 3))), ((d_t_deeds_desks 4), .inr (1, [.int (t_deeds_desks_genus 4), .int (t_deeds_desks_size 4), .ref (q_t_deeds_desks 4), .int (t_deeds_desks_limit 4), .long (t_deeds_desks_tree 4)])), ((q_t_deeds_desks 4), .inl (cI, 8, .inl (a_t_deeds_desks 4))), ((d_t_deeds_desks 5), .inr (1, [.int (t_deeds_desks_genus 5), .int (t_deeds_desks_size 5), .ref (q_t_deeds_desks 5), .int (t_deeds_desks_limit 5), .long (t_deeds_desks_tree 5)])), ((q_t_deeds_desks 5), .inl (cI, 8, .inl (a_t_deeds_desks 5))), ((d_t_deeds_desks 6), .inr (1, [.int (t_deeds_desks_genus 6), .int (t_deeds_desks_size 6), .ref (q_t_deeds_desks 6), .int (t_deeds_desks_limit 6), .long (t_deeds_desks_tree 6)])), ((q_t_deeds_desks 6), .inl (cI, 8, .inl (a_t_deeds_desks 6))), ((d_t_deeds_desks 7), .inr (1, [.int (t_deeds_desks_genus 7), .int (t_deeds_desks_size 7), .ref (q_t_deeds_desks 7), .int (t_deeds_desks_limit 7), .long (t_deeds_desks_tree 7)])), ((q_t_deeds_desks 7), .inl (cI, 8, .inl (a_t_deeds_desks 7))), ((d_t_deeds_desks 8), .inr (1, [.int (t_deeds_desks_genus 8), .int (t_deeds_desks_size 8), .ref (q_t_deeds_desks 8), .int (t_deeds_desks_limit 8), .long (t_deeds_desks_tree 8)])), ((q_t_deeds_desks 8), .inl (cI, 8, .inl (a_t_deeds_desks 8))), (h_t_desk_powers, .inl (cI, 8, .inl a_t_desk_powers))] sz) := by
  refine Met.ofW (cc := cX8_again) (maxL := 1) (ret := (some .int)) (by decide) rfl ?_
  intro p e s m args below meth c s₁ B hml hv
  obtain ⟨rfl, hsz, hP, hK, hD0⟩ := hv
  have hx := B.exec
  have hb := B.bytes
  have hr := B.returns
  have hts := atoms_spec (ws := wsX8_again) B.pre
  have hta : ∀ w ∈ wA, w.before ([.ref h_t] : List Value).toArray s = true := hta_of hts
  have hown : s.vm.findClass RX8 = some m.cls := findClass_of_methodNamed B.named
  have hlocks := B.notSynchronized
  subst hsz
  have hD := hD0.self (sz := s.heap.size)
  generalize hAe : va_A [(h_t, .inr (7, [.ref h_t_desk, .ref h_t_imageDesk, .ref h_t_deeds, .ref h_t_numbers, .ref h_t_tape, .ref h_t_reader, .ref h_t_speller, .ref h_t_holders, .int t_imageKept])), (h_t_deeds, .inr (0, [.ref h_t_deeds_desks, .int t_deeds_now, .int t_deeds_last])), (h_t_desk, .inr (1, [.int t_desk_genus, .int t_desk_size, .ref h_t_desk_powers, .int t_desk_limit, .long t_desk_tree])), (h_t_deeds_desks, .inl (cD, 9, .inr (.inr (.inr (.inr (fun i => some (d_t_deeds_desks i))))))), ((d_t_deeds_desks 0), .inr (1, [.int (t_deeds_desks_genus 0), .int (t_deeds_desks_size 0), .ref (q_t_deeds_desks 0), .int (t_deeds_desks_limit 0), .long (t_deeds_desks_tree 0)])), ((q_t_deeds_desks 0), .inl (cI, 8, .inl (a_t_deeds_desks 0))), ((d_t_deeds_desks 1), .inr (1, [.int (t_deeds_desks_genus 1), .int (t_deeds_desks_size 1), .ref (q_t_deeds_desks 1), .int (t_deeds_desks_limit 1), .long (t_deeds_desks_tree 1)])), ((q_t_deeds_desks 1), .inl (cI, 8, .inl (a_t_deeds_desks 1))), ((d_t_deeds_desks 2), .inr (1, [.int (t_deeds_desks_genus 2), .int (t_deeds_desks_size 2), .ref (q_t_deeds_desks 2), .int (t_deeds_desks_limit 2), .long (t_deeds_desks_tree 2)])), ((q_t_deeds_desks 2), .inl (cI, 8, .inl (a_t_deeds_desks 2))), ((d_t_deeds_desks 3), .inr (1, [.int (t_deeds_desks_genus 3), .int (t_deeds_desks_size 3), .ref (q_t_deeds_desks 3), .int (t_deeds_desks_limit 3), .long (t_deeds_desks_tree 3)])), ((q_t_deeds_desks 3), .inl (cI, 8, .inl (a_t_deeds_desks 3))), ((d_t_deeds_desks 4), .inr (1, [.int (t_deeds_desks_genus 4), .int (t_deeds_desks_size 4), .ref (q_t_deeds_desks 4), .int (t_deeds_desks_limit 4), .long (t_deeds_desks_tree 4)])), ((q_t_deeds_desks 4), .inl (cI, 8, .inl (a_t_deeds_desks 4))), ((d_t_deeds_desks 5), .inr (1, [.int (t_deeds_desks_genus 5), .int (t_deeds_desks_size 5), .ref (q_t_deeds_desks 5), .int (t_deeds_desks_limit 5), .long (t_deeds_desks_tree 5)])), ((q_t_deeds_desks 5), .inl (cI, 8, .inl (a_t_deeds_desks 5))), ((d_t_deeds_desks 6), .inr (1, [.int (t_deeds_desks_genus 6), .int (t_deeds_desks_size 6), .ref (q_t_deeds_desks 6), .int (t_deeds_desks_limit 6), .long (t_deeds_desks_tree 6)])), ((q_t_deeds_desks 6), .inl (cI, 8, .inl (a_t_deeds_desks 6))), ((d_t_deeds_desks 7), .inr (1, [.int (t_deeds_desks_genus 7), .int (t_deeds_desks_size 7), .ref (q_t_deeds_desks 7), .int (t_deeds_desks_limit 7), .long (t_deeds_desks_tree 7)])), ((q_t_deeds_desks 7), .inl (cI, 8, .inl (a_t_deeds_desks 7))), ((d_t_deeds_desks 8), .inr (1, [.int (t_deeds_desks_genus 8), .int (t_deeds_desks_size 8), .ref (q_t_deeds_desks 8), .int (t_deeds_desks_limit 8), .long (t_deeds_desks_tree 8)])), ((q_t_deeds_desks 8), .inl (cI, 8, .inl (a_t_deeds_desks 8))), (h_t_desk_powers, .inl (cI, 8, .inl a_t_desk_powers))] s.heap.size = A at hD ⊢
  have hA : ∀ q : Nat, s.heap.size ≤ q → A q := fun q h => by rw [← hAe]; exact Or.inr h
  have hS : va_S A s.heap s.heap [] := va_S.rf
  have hl := lv_entry ([.ref h_t]) (n := 1) (Nat.le_of_ble_eq_true rfl)
  rw [lg_entry_eq]
  generalize (lg_sl ([.ref h_t]) ++ List.replicate (1 - (lg_sl ([.ref h_t])).length) Slot.unset).toArray = ls at hl ⊢
  have hl : lv_has ls 1 [(0, .ref h_t)] := hl
  have hinX8 : ∀ w ∈ wsX80, w ∈ wsX8_again := hin_of in_X8
  have h := hF
  unfold F_X8_again at h
  refine lv_aload_n hx hb dX8_again_0 rfl (lv_at hl 0 rfl) ?_
  refine va_get (D := G) (ci := 7) (v := .ref h_t_deeds) (C := RX8) (T := TX8) (N := 9) hx hb hts hinX8 hown hK hP 0 rfl rfl 2 (by decide) (hta _ mw_358) (fun _ h9 => h9) rfl dX8_again_1 ?_
  obtain ⟨x1, hx1, h⟩ := bd_e h
  try dsimp only at h
  refine k_ViU (n := 0) (As := []) (rest := []) hx hb hml hown hts (c_X0_repeatable l G cI cJ cD cH s.heap.size h_t_deeds h_t_deeds_desks t_deeds_now t_deeds_last x1 hx1) gX8_again_X0_repeatable rfl rfl rfl (by decide +kernel) ⟨by first | exact Nat.le_of_ble_eq_true rfl | (simp only [headSpec]; omega), by first | exact Nat.le_of_ble_eq_true rfl | (simp only [headSpec]; omega)⟩ hK hP hD hS hA [1] (by decide) rfl (ci := 0) rfl rfl rfl rfl rfl hl.1 (Nat.le_of_ble_eq_true rfl) dX8_again_4 ⟨Nat.zero_le _, Nat.zero_le _⟩ (fun hp1 H locs hP hS => ?_)
  refine lv_if_ne (tgt := 13) hx hb dX8_again_7 (by decide) (fun c2 => ?_) (fun c2 => ?_)
  rotate_left
  · have h := it_p h c2
    refine lv_bipush (v := (-5 : Int32)) hx hb dX8_again_10 (by decide) ?_
    have h9 := Option.some.inj h
    have e9 : (-5 : Int32) = r0 := congrArg (fun z9 => z9.1) h9
    subst e9
    have e9 : a_t_desk_powers = w0 := congrArg (fun z9 => z9.2.1) h9
    subst e9
    have e9 : t_deeds_now = w1 := congrArg (fun z9 => z9.2.2.1) h9
    subst e9
    have e9 : t_desk_genus = w2 := congrArg (fun z9 => z9.2.2.2.1) h9
    subst e9
    have e9 : t_desk_size = w3 := congrArg (fun z9 => z9.2.2.2.2.1) h9
    subst e9
    have e9 : t_desk_limit = w4 := congrArg (fun z9 => z9.2.2.2.2.2.1) h9
    subst e9
    have e9 : t_desk_tree = w5 := congrArg (fun z9 => z9.2.2.2.2.2.2) h9
    subst e9
    exact k_iret hx hb hr hlocks hP hS rfl dX8_again_12
  have h := it_n h c2
  refine lv_aload_n hx hb dX8_again_13 rfl (lv_at hl 0 rfl) ?_
  refine va_get (D := G) (ci := 7) (v := .ref h_t_deeds) (C := RX8) (T := TX8) (N := 9) hx hb hts hinX8 hown hK hP 0 rfl rfl 2 (by decide) (hta _ mw_358) (fun _ h9 => h9) rfl dX8_again_14 ?_
  refine lv_aload_n hx hb dX8_again_17 rfl (lv_at hl 0 rfl) ?_
  refine va_get (D := G) (ci := 7) (v := .ref h_t_desk) (C := RX8) (T := TX8) (N := 9) hx hb hts hinX8 hown hK hP 0 rfl rfl 0 (by decide) (hta _ mw_354) (fun _ h9 => h9) rfl dX8_again_18 ?_
  obtain ⟨x3, hx3, h⟩ := bd_e h
  try dsimp only at h
  refine k_Vv (n := 1) (As := [.ref h_t_desk]) (rest := []) hx hb hml hown hts (c_X0_stepOn l G cI cJ cD cH H.size h_t_deeds h_t_desk h_t_deeds_desks h_t_desk_powers d_t_deeds_desks q_t_deeds_desks a_t_deeds_desks t_deeds_desks_genus t_deeds_desks_size t_deeds_desks_limit t_deeds_desks_tree t_deeds_now t_deeds_last t_desk_genus t_desk_size t_desk_limit t_desk_tree a_t_desk_powers (x3.1) (x3.2.1) (x3.2.2.1) (x3.2.2.2.1) (x3.2.2.2.2.1) (x3.2.2.2.2.2) hx3) gX8_again_X0_stepOn rfl rfl rfl (by decide +kernel) ⟨by first | exact Nat.le_of_ble_eq_true rfl | (simp only [headSpec]; omega), by first | exact Nat.le_of_ble_eq_true rfl | (simp only [headSpec]; omega)⟩ hK hP hD hS hA [1, 2, 3, 4, 5, 6, 7, 8, 9, 10, 11, 12, 13, 14, 15, 16, 17, 18, 19, 20, 21, 22] (by decide) rfl rfl (ci := 0) rfl rfl rfl rfl rfl hl.1 (Nat.le_of_ble_eq_true rfl) dX8_again_21 ⟨Nat.zero_le _, Nat.zero_le _⟩ [(h_t, .inr (7, [.ref h_t_desk, .ref h_t_imageDesk, .ref h_t_deeds, .ref h_t_numbers, .ref h_t_tape, .ref h_t_reader, .ref h_t_speller, .ref h_t_holders, .int t_imageKept])), (h_t_deeds, .inr (0, [.ref h_t_deeds_desks, .int (x3.2.1), .int t_deeds_last])), (h_t_desk, .inr (1, [.int (x3.2.2.1), .int (x3.2.2.2.1), .ref h_t_desk_powers, .int (x3.2.2.2.2.1), .long (x3.2.2.2.2.2)])), (h_t_deeds_desks, .inl (cD, 9, .inr (.inr (.inr (.inr (fun i => some (d_t_deeds_desks i))))))), ((d_t_deeds_desks 0), .inr (1, [.int (t_deeds_desks_genus 0), .int (t_deeds_desks_size 0), .ref (q_t_deeds_desks 0), .int (t_deeds_desks_limit 0), .long (t_deeds_desks_tree 0)])), ((q_t_deeds_desks 0), .inl (cI, 8, .inl (a_t_deeds_desks 0))), ((d_t_deeds_desks 1), .inr (1, [.int (t_deeds_desks_genus 1), .int (t_deeds_desks_size 1), .ref (q_t_deeds_desks 1), .int (t_deeds_desks_limit 1), .long (t_deeds_desks_tree 1)])), ((q_t_deeds_desks 1), .inl (cI, 8, .inl (a_t_deeds_desks 1))), ((d_t_deeds_desks 2), .inr (1, [.int (t_deeds_desks_genus 2), .int (t_deeds_desks_size 2), .ref (q_t_deeds_desks 2), .int (t_deeds_desks_limit 2), .long (t_deeds_desks_tree 2)])), ((q_t_deeds_desks 2), .inl (cI, 8, .inl (a_t_deeds_desks 2))), ((d_t_deeds_desks 3), .inr (1, [.int (t_deeds_desks_genus 3), .int (t_deeds_desks_size 3), .ref (q_t_deeds_desks 3), .int (t_deeds_desks_limit 3), .long (t_deeds_desks_tree 3)])), ((q_t_deeds_desks 3), .inl (cI, 8, .inl (a_t_deeds_desks 3))), ((d_t_deeds_desks 4), .inr (1, [.int (t_deeds_desks_genus 4), .int (t_deeds_desks_size 4), .ref (q_t_deeds_desks 4), .int (t_deeds_desks_limit 4), .long (t_deeds_desks_tree 4)])), ((q_t_deeds_desks 4), .inl (cI, 8, .inl (a_t_deeds_desks 4))), ((d_t_deeds_desks 5), .inr (1, [.int (t_deeds_desks_genus 5), .int (t_deeds_desks_size 5), .ref (q_t_deeds_desks 5), .int (t_deeds_desks_limit 5), .long (t_deeds_desks_tree 5)])), ((q_t_deeds_desks 5), .inl (cI, 8, .inl (a_t_deeds_desks 5))), ((d_t_deeds_desks 6), .inr (1, [.int (t_deeds_desks_genus 6), .int (t_deeds_desks_size 6), .ref (q_t_deeds_desks 6), .int (t_deeds_desks_limit 6), .long (t_deeds_desks_tree 6)])), ((q_t_deeds_desks 6), .inl (cI, 8, .inl (a_t_deeds_desks 6))), ((d_t_deeds_desks 7), .inr (1, [.int (t_deeds_desks_genus 7), .int (t_deeds_desks_size 7), .ref (q_t_deeds_desks 7), .int (t_deeds_desks_limit 7), .long (t_deeds_desks_tree 7)])), ((q_t_deeds_desks 7), .inl (cI, 8, .inl (a_t_deeds_desks 7))), ((d_t_deeds_desks 8), .inr (1, [.int (t_deeds_desks_genus 8), .int (t_deeds_desks_size 8), .ref (q_t_deeds_desks 8), .int (t_deeds_desks_limit 8), .long (t_deeds_desks_tree 8)])), ((q_t_deeds_desks 8), .inl (cI, 8, .inl (a_t_deeds_desks 8))), (h_t_desk_powers, .inl (cI, 8, .inl (x3.1)))] [0] 23 rfl rfl rfl (by decide +kernel) rfl (fun hp3 H locs hP hD hS => ?_)
  refine lv_aload_n hx hb dX8_again_24 rfl (lv_at hl 0 rfl) ?_
  refine va_get (D := G) (ci := 7) (v := .ref h_t_deeds) (C := RX8) (T := TX8) (N := 9) hx hb hts hinX8 hown hK hP 0 rfl rfl 2 (by decide) (hta _ mw_358) (fun _ h9 => h9) rfl dX8_again_25 ?_
  obtain ⟨x4, hx4, h⟩ := bd_e h
  try dsimp only at h
  refine k_ViU (n := 0) (As := []) (rest := []) hx hb hml hown hts (c_X0_repeatable l G cI cJ cD cH H.size h_t_deeds h_t_deeds_desks (x3.2.1) t_deeds_last x4 hx4) gX8_again_X0_repeatable rfl rfl rfl (by decide +kernel) ⟨by first | exact Nat.le_of_ble_eq_true rfl | (simp only [headSpec]; omega), by first | exact Nat.le_of_ble_eq_true rfl | (simp only [headSpec]; omega)⟩ hK hP hD hS hA [1] (by decide) rfl (ci := 0) rfl rfl rfl rfl rfl hl.1 (Nat.le_of_ble_eq_true rfl) dX8_again_28 ⟨Nat.zero_le _, Nat.zero_le _⟩ (fun hp4 H locs hP hS => ?_)
  have h9 := Option.some.inj h
  have e9 : x4 = r0 := congrArg (fun z9 => z9.1) h9
  subst e9
  have e9 : (x3.1) = w0 := congrArg (fun z9 => z9.2.1) h9
  subst e9
  have e9 : (x3.2.1) = w1 := congrArg (fun z9 => z9.2.2.1) h9
  subst e9
  have e9 : (x3.2.2.1) = w2 := congrArg (fun z9 => z9.2.2.2.1) h9
  subst e9
  have e9 : (x3.2.2.2.1) = w3 := congrArg (fun z9 => z9.2.2.2.2.1) h9
  subst e9
  have e9 : (x3.2.2.2.2.1) = w4 := congrArg (fun z9 => z9.2.2.2.2.2.1) h9
  subst e9
  have e9 : (x3.2.2.2.2.2) = w5 := congrArg (fun z9 => z9.2.2.2.2.2.2) h9
  subst e9
  exact k_iret hx hb hr hlocks hP hS rfl dX8_again_31

/-! X8_feed -/
set_option maxHeartbeats 4000000 in
set_option maxRecDepth 100000 in
theorem tK_X8_feed_33_60 {l : Launch} {G : va_G} {cI cJ cD cH : ClassId} {h_t : Nat} {h_t_tape : Nat} {h_t_tape_bytes : Nat} {h_t_desk : Nat} {h_t_imageDesk : Nat} {h_t_deeds : Nat} {h_t_numbers : Nat} {h_t_reader : Nat} {h_t_speller : Nat} {h_t_holders : Nat} {t_imageKept : Int32} {p0 : Int32} {p1 : Int32} {r0 : Int32} {w0 : Nat → Int32} {w1 : Int32} {p : Program} {e : Env} {s : State} {m : MethodId} {below : List Frame} {meth : Method} {c : Code} {A : Nat → Prop} (hx : p.tables.exec = Jvm.exec) (hb : c.code = cX8_feed) (hr : meth.sig.returnType = (some .int)) (hml : c.maxLocals = 4) (hts : ∀ w ∈ wsX8_feed, w.before ([.ref h_t, .int p0, .int p1] : List Value).toArray s = true) (hown : s.vm.findClass RX8 = some m.cls) (hlocks : meth.locks = false) (hK : va_K G vwCl (k_T cI cJ cD cH) s) (hA : ∀ q : Nat, s.heap.size ≤ q → A q) : ∀  (vK33_60_0 : Nat → Int32) (vK33_60_1 : Int32) (H : Heap) (locs : List Loc) (ls : Array Slot), va_P G vwCl [(h_t, .inr (7, [.ref h_t_desk, .ref h_t_imageDesk, .ref h_t_deeds, .ref h_t_numbers, .ref h_t_tape, .ref h_t_reader, .ref h_t_speller, .ref h_t_holders, .int t_imageKept])), (h_t_tape, .inr (6, [.ref h_t_tape_bytes, .int vK33_60_1])), (h_t_tape_bytes, .inl (cI, 60, .inl vK33_60_0))] H → va_D A [(h_t, .inr (7, [.ref h_t_desk, .ref h_t_imageDesk, .ref h_t_deeds, .ref h_t_numbers, .ref h_t_tape, .ref h_t_reader, .ref h_t_speller, .ref h_t_holders, .int t_imageKept])), (h_t_tape, .inr (6, [.ref h_t_tape_bytes, .int vK33_60_1])), (h_t_tape_bytes, .inl (cI, 60, .inl vK33_60_0))] → va_S A s.heap H locs → lv_has ls 4 [(0, .ref h_t)] → K_X8_feed_33_60 vK33_60_0 vK33_60_1 = some (r0, w0, w1) → W p l e (headSpec wsX8_feed ({ frames := 1, cells := 0, slots := 0, locals := 21 })).room s m ([.ref h_t, .int p0, .int p1] : List Value).toArray below meth c H locs 0 0 (MQ below (va_Qi (fun r (_ : Unit) => r = r0 ∧ True) (fun _ t => va_P G vwCl [(h_t, .inr (7, [.ref h_t_desk, .ref h_t_imageDesk, .ref h_t_deeds, .ref h_t_numbers, .ref h_t_tape, .ref h_t_reader, .ref h_t_speller, .ref h_t_holders, .int t_imageKept])), (h_t_tape, .inr (6, [.ref h_t_tape_bytes, .int w1])), (h_t_tape_bytes, .inl (cI, 60, .inl w0))] t.heap) A) ([.ref h_t, .int p0, .int p1] : List Value).toArray s 0 0 A) (F0 m 60 ls []) := by
  have hta : ∀ w ∈ wA, w.before ([.ref h_t, .int p0, .int p1] : List Value).toArray s = true := hta_of hts
  have hinX7 : ∀ w ∈ wsX70, w ∈ wsX8_feed := hin_of in_X7
  have hinX8 : ∀ w ∈ wsX80, w ∈ wsX8_feed := hin_of in_X8
  intro vK33_60_0 vK33_60_1 H locs ls hP hD hS hl h
  unfold K_X8_feed_33_60 at h
  refine lv_aload_n hx hb dX8_feed_60 rfl (lv_at hl 0 rfl) ?_
  refine va_get (D := G) (ci := 7) (v := .ref h_t_tape) (C := RX8) (T := TX8) (N := 9) hx hb hts hinX8 hown hK hP 0 rfl rfl 4 (by decide) (hta _ mw_366) (fun _ h9 => h9) rfl dX8_feed_61 ?_
  refine va_get (D := G) (ci := 6) (v := .int vK33_60_1) (C := RX7) (T := TX7) (N := 2) hx hb hts hinX7 hown hK hP 1 rfl rfl 1 (by decide) (hta _ mw_532) (fun _ h9 => h9) rfl dX8_feed_64 ?_
  have h9 := Option.some.inj h
  have e9 : vK33_60_1 = r0 := congrArg (fun z9 => z9.1) h9
  subst e9
  have e9 : vK33_60_0 = w0 := congrArg (fun z9 => z9.2.1) h9
  subst e9
  have e9 : vK33_60_1 = w1 := congrArg (fun z9 => z9.2.2) h9
  subst e9
  exact k_iret hx hb hr hlocks hP hS rfl dX8_feed_67
set_option maxHeartbeats 4000000 in
set_option maxRecDepth 100000 in
theorem c_X8_feed (l : Launch) (G : va_G) (cI cJ cD cH : ClassId) (sz : Nat) (h_t : Nat) (h_t_tape : Nat) (h_t_tape_bytes : Nat) (h_t_desk : Nat) (h_t_imageDesk : Nat) (h_t_deeds : Nat) (h_t_numbers : Nat) (h_t_reader : Nat) (h_t_speller : Nat) (h_t_holders : Nat) (t_imageKept : Int32) (t_tape_size : Int32) (a_t_tape_bytes : Nat → Int32) (p0 : Int32) (p1 : Int32) (r0 : Int32) (w0 : Nat → Int32) (w1 : Int32) (hF : F_X8_feed t_tape_size a_t_tape_bytes p0 p1 = some (r0, w0, w1)) : Met l yX8_feed wsX8_feed ({ frames := 1, cells := 0, slots := 0, locals := 21 }) (k_pre G (k_T cI cJ cD cH) [(h_t, .inr (7, [.ref h_t_desk, .ref h_t_imageDesk, .ref h_t_deeds, .ref h_t_numbers, .ref h_t_tape, .ref h_t_reader, .ref h_t_speller, .ref h_t_holders, .int t_imageKept])), (h_t_tape, .inr (6, [.ref h_t_tape_bytes, .int t_tape_size])), (h_t_tape_bytes, .inl (cI, 60, .inl a_t_tape_bytes))] sz [.ref h_t, .int p0, .int p1]) (va_Qi (fun r (_ : Unit) => r = r0 ∧ True) (fun _ t => va_P G vwCl [(h_t, .inr (7, [.ref h_t_desk, .ref h_t_imageDesk, .ref h_t_deeds, .ref h_t_numbers, .ref h_t_tape, .ref h_t_reader, .ref h_t_speller, .ref h_t_holders, .int t_imageKept])), (h_t_tape, .inr (6, [.ref h_t_tape_bytes, .int w1])), (h_t_tape_bytes, .inl (cI, 60, .inl w0))] t.heap) (va_A [(h_t, .inr (7, [.ref h_t_desk, .ref h_t_imageDesk, .ref h_t_deeds, .ref h_t_numbers, .ref h_t_tape, .ref h_t_reader, .ref h_t_speller, .ref h_t_holders, .int t_imageKept])), (h_t_tape, .inr (6, [.ref h_t_tape_bytes, .int t_tape_size])), (h_t_tape_bytes, .inl (cI, 60, .inl a_t_tape_bytes))] sz)) 0 0 (va_A [(h_t, .inr (7, [.ref h_t_desk, .ref h_t_imageDesk, .ref h_t_deeds, .ref h_t_numbers, .ref h_t_tape, .ref h_t_reader, .ref h_t_speller, .ref h_t_holders, .int t_imageKept])), (h_t_tape, .inr (6, [.ref h_t_tape_bytes, .int t_tape_size])), (h_t_tape_bytes, .inl (cI, 60, .inl a_t_tape_bytes))] sz) := by
  refine Met.ofW (cc := cX8_feed) (maxL := 4) (ret := (some .int)) (by decide) rfl ?_
  intro p e s m args below meth c s₁ B hml hv
  obtain ⟨rfl, hsz, hP, hK, hD0⟩ := hv
  have hx := B.exec
  have hb := B.bytes
  have hr := B.returns
  have hts := atoms_spec (ws := wsX8_feed) B.pre
  have hta : ∀ w ∈ wA, w.before ([.ref h_t, .int p0, .int p1] : List Value).toArray s = true := hta_of hts
  have hown : s.vm.findClass RX8 = some m.cls := findClass_of_methodNamed B.named
  have hlocks := B.notSynchronized
  subst hsz
  have hD := hD0.self (sz := s.heap.size)
  generalize hAe : va_A [(h_t, .inr (7, [.ref h_t_desk, .ref h_t_imageDesk, .ref h_t_deeds, .ref h_t_numbers, .ref h_t_tape, .ref h_t_reader, .ref h_t_speller, .ref h_t_holders, .int t_imageKept])), (h_t_tape, .inr (6, [.ref h_t_tape_bytes, .int t_tape_size])), (h_t_tape_bytes, .inl (cI, 60, .inl a_t_tape_bytes))] s.heap.size = A at hD ⊢
  have hA : ∀ q : Nat, s.heap.size ≤ q → A q := fun q h => by rw [← hAe]; exact Or.inr h
  have hS : va_S A s.heap s.heap [] := va_S.rf
  have hl := lv_entry ([.ref h_t, .int p0, .int p1]) (n := 4) (Nat.le_of_ble_eq_true rfl)
  rw [lg_entry_eq]
  generalize (lg_sl ([.ref h_t, .int p0, .int p1]) ++ List.replicate (4 - (lg_sl ([.ref h_t, .int p0, .int p1])).length) Slot.unset).toArray = ls at hl ⊢
  have hl : lv_has ls 4 [(0, .ref h_t), (1, .int p0), (2, .int p1)] := hl
  have hinX7 : ∀ w ∈ wsX70, w ∈ wsX8_feed := hin_of in_X7
  have hinX8 : ∀ w ∈ wsX80, w ∈ wsX8_feed := hin_of in_X8
  have h := hF
  unfold F_X8_feed at h
  refine lv_iload_n hx hb dX8_feed_0 rfl (lv_at hl 2 rfl) ?_
  refine lv_iconst (v := (1 : Int32)) hx hb dX8_feed_1 (by decide) ?_
  refine lv_icmp_lt (tgt := 10) hx hb dX8_feed_2 (by decide) (fun c1 => ?_) (fun c1 => ?_)
  · have h := it_p h c1
    refine lv_iconst (v := (-1 : Int32)) hx hb dX8_feed_10 (by decide) ?_
    have h9 := Option.some.inj h
    have e9 : (-1 : Int32) = r0 := congrArg (fun z9 => z9.1) h9
    subst e9
    have e9 : a_t_tape_bytes = w0 := congrArg (fun z9 => z9.2.1) h9
    subst e9
    have e9 : t_tape_size = w1 := congrArg (fun z9 => z9.2.2) h9
    subst e9
    exact k_iret hx hb hr hlocks hP hS rfl dX8_feed_11
  have h := it_n h c1
  refine lv_iload_n hx hb dX8_feed_5 rfl (lv_at hl 2 rfl) ?_
  refine lv_iconst (v := (4 : Int32)) hx hb dX8_feed_6 (by decide) ?_
  refine lv_icmp_le (tgt := 12) hx hb dX8_feed_7 (by decide) (fun c2 => ?_) (fun c2 => ?_)
  rotate_left
  · have h := it_n h c2
    refine lv_iconst (v := (-1 : Int32)) hx hb dX8_feed_10 (by decide) ?_
    have h9 := Option.some.inj h
    have e9 : (-1 : Int32) = r0 := congrArg (fun z9 => z9.1) h9
    subst e9
    have e9 : a_t_tape_bytes = w0 := congrArg (fun z9 => z9.2.1) h9
    subst e9
    have e9 : t_tape_size = w1 := congrArg (fun z9 => z9.2.2) h9
    subst e9
    exact k_iret hx hb hr hlocks hP hS rfl dX8_feed_11
  have h := it_p h c2
  refine lv_aload_n hx hb dX8_feed_12 rfl (lv_at hl 0 rfl) ?_
  refine va_get (D := G) (ci := 7) (v := .ref h_t_tape) (C := RX8) (T := TX8) (N := 9) hx hb hts hinX8 hown hK hP 0 rfl rfl 4 (by decide) (hta _ mw_366) (fun _ h9 => h9) rfl dX8_feed_13 ?_
  refine va_get (D := G) (ci := 6) (v := .int t_tape_size) (C := RX7) (T := TX7) (N := 2) hx hb hts hinX7 hown hK hP 1 rfl rfl 1 (by decide) (hta _ mw_532) (fun _ h9 => h9) rfl dX8_feed_16 ?_
  refine lv_iload_n hx hb dX8_feed_19 rfl (lv_at hl 2 rfl) ?_
  refine lv_iadd hx hb dX8_feed_20 ?_
  refine lv_bipush (v := (60 : Int32)) hx hb dX8_feed_21 (by decide) ?_
  refine lv_icmp_le (tgt := 29) hx hb dX8_feed_23 (by decide) (fun c3 => ?_) (fun c3 => ?_)
  rotate_left
  · have h := it_n h c3
    refine lv_bipush (v := (-3 : Int32)) hx hb dX8_feed_26 (by decide) ?_
    have h9 := Option.some.inj h
    have e9 : (-3 : Int32) = r0 := congrArg (fun z9 => z9.1) h9
    subst e9
    have e9 : a_t_tape_bytes = w0 := congrArg (fun z9 => z9.2.1) h9
    subst e9
    have e9 : t_tape_size = w1 := congrArg (fun z9 => z9.2.2) h9
    subst e9
    exact k_iret hx hb hr hlocks hP hS rfl dX8_feed_28
  have h := it_p h c3
  refine lv_iload_n hx hb dX8_feed_29 rfl (lv_at hl 2 rfl) ?_
  refine lv_iconst (v := (1 : Int32)) hx hb dX8_feed_30 (by decide) ?_
  refine lv_isub hx hb dX8_feed_31 ?_
  refine lv_istore_n (lv' := [(3, .int (p1 - (1 : Int32))), (0, .ref h_t), (1, .int p0), (2, .int p1)]) hx hb dX8_feed_32 rfl hl (by decide) rfl (fun ls hl => ?_)
  have hL33 : ∀ (n33 : Nat) (vL33_0 : Nat → Int32) (vL33_1 : Int32) (vL33_2 : Int32) (H : Heap) (locs : List Loc) (ls : Array Slot), va_P G vwCl [(h_t, .inr (7, [.ref h_t_desk, .ref h_t_imageDesk, .ref h_t_deeds, .ref h_t_numbers, .ref h_t_tape, .ref h_t_reader, .ref h_t_speller, .ref h_t_holders, .int t_imageKept])), (h_t_tape, .inr (6, [.ref h_t_tape_bytes, .int vL33_1])), (h_t_tape_bytes, .inl (cI, 60, .inl vL33_0))] H → va_D A [(h_t, .inr (7, [.ref h_t_desk, .ref h_t_imageDesk, .ref h_t_deeds, .ref h_t_numbers, .ref h_t_tape, .ref h_t_reader, .ref h_t_speller, .ref h_t_holders, .int t_imageKept])), (h_t_tape, .inr (6, [.ref h_t_tape_bytes, .int vL33_1])), (h_t_tape_bytes, .inl (cI, 60, .inl vL33_0))] → va_S A s.heap H locs → lv_has ls 4 [(0, .ref h_t), (1, .int p0), (3, .int vL33_2)] → wq3 (B_X8_feed_33 p0 K_X8_feed_33_60) n33 vL33_0 vL33_1 vL33_2 = some (r0, w0, w1) → W p l e (headSpec wsX8_feed ({ frames := 1, cells := 0, slots := 0, locals := 21 })).room s m ([.ref h_t, .int p0, .int p1] : List Value).toArray below meth c H locs 0 0 (MQ below (va_Qi (fun r (_ : Unit) => r = r0 ∧ True) (fun _ t => va_P G vwCl [(h_t, .inr (7, [.ref h_t_desk, .ref h_t_imageDesk, .ref h_t_deeds, .ref h_t_numbers, .ref h_t_tape, .ref h_t_reader, .ref h_t_speller, .ref h_t_holders, .int t_imageKept])), (h_t_tape, .inr (6, [.ref h_t_tape_bytes, .int w1])), (h_t_tape_bytes, .inl (cI, 60, .inl w0))] t.heap) A) ([.ref h_t, .int p0, .int p1] : List Value).toArray s 0 0 A) (F0 m 33 ls []) := by
    intro n33
    induction n33 with
    | zero => intro vL33_0 vL33_1 vL33_2 H locs ls hP hD hS hl h; exact wq3_0 h
    | succ n33 ih33 =>
      intro vL33_0 vL33_1 vL33_2 H locs ls hP hD hS hl h
      have h := wq3_s h
      unfold B_X8_feed_33 at h
      refine lv_iload_n hx hb dX8_feed_33 rfl (lv_at hl 2 rfl) ?_
      refine lv_if_lt (tgt := 60) hx hb dX8_feed_34 (by decide) (fun c4 => ?_) (fun c4 => ?_)
      · have h := it_p h c4
        exact tK_X8_feed_33_60 hx hb hr hml hts hown hlocks hK hA vL33_0 vL33_1 _ _ _ hP hD hS (lv_sub hl [0] rfl) h
      have h := it_n h c4
      refine lv_aload_n hx hb dX8_feed_37 rfl (lv_at hl 0 rfl) ?_
      refine va_get (D := G) (ci := 7) (v := .ref h_t_tape) (C := RX8) (T := TX8) (N := 9) hx hb hts hinX8 hown hK hP 0 rfl rfl 4 (by decide) (hta _ mw_366) (fun _ h9 => h9) rfl dX8_feed_38 ?_
      refine lv_iload_n hx hb dX8_feed_41 rfl (lv_at hl 1 rfl) ?_
      refine lv_bipush (v := (8 : Int32)) hx hb dX8_feed_42 (by decide) ?_
      refine lv_iload_n hx hb dX8_feed_44 rfl (lv_at hl 2 rfl) ?_
      refine lv_imul hx hb dX8_feed_45 ?_
      refine lv_iushr (v := (iush p0 ((8 : Int32) * vL33_2))) hx hb dX8_feed_46 rfl ?_
      refine lv_sipush (v := (255 : Int32)) hx hb dX8_feed_47 (by decide) ?_
      refine lv_iand hx hb dX8_feed_50 ?_
      obtain ⟨x5, hx5, h⟩ := bd_e h
      try dsimp only at h
      refine k_Vv (n := 1) (As := [.int ((iush p0 ((8 : Int32) * vL33_2)) &&& (255 : Int32))]) (rest := []) hx hb hml hown hts (c_X7_add l G cI cJ cD cH H.size h_t_tape h_t_tape_bytes vL33_1 vL33_0 ((iush p0 ((8 : Int32) * vL33_2)) &&& (255 : Int32)) (x5.1) (x5.2) hx5) gX8_feed_X7_add rfl rfl rfl (by decide +kernel) ⟨by first | exact Nat.le_of_ble_eq_true rfl | (simp only [headSpec]; omega), by first | exact Nat.le_of_ble_eq_true rfl | (simp only [headSpec]; omega)⟩ hK hP hD hS hA [1, 2] (by decide) rfl rfl (ci := 6) rfl rfl rfl rfl rfl hl.1 (Nat.le_of_ble_eq_true rfl) dX8_feed_51 ⟨Nat.zero_le _, Nat.zero_le _⟩ [(h_t, .inr (7, [.ref h_t_desk, .ref h_t_imageDesk, .ref h_t_deeds, .ref h_t_numbers, .ref h_t_tape, .ref h_t_reader, .ref h_t_speller, .ref h_t_holders, .int t_imageKept])), (h_t_tape, .inr (6, [.ref h_t_tape_bytes, .int (x5.2)])), (h_t_tape_bytes, .inl (cI, 60, .inl (x5.1)))] [0] 3 rfl rfl rfl (by decide +kernel) rfl (fun hp5 H locs hP hD hS => ?_)
      refine lv_iinc (v := (vL33_2 + (-1 : Int32))) (lv' := [(3, .int (vL33_2 + (-1 : Int32))), (0, .ref h_t), (1, .int p0)]) hx hb dX8_feed_54 hl (k := 2) rfl (by first | rfl | decide) (by decide) rfl (fun ls hl => ?_)
      refine lv_goto (tgt := 33) hx hb dX8_feed_57 (by decide) ?_
      exact ih33 (x5.1) (x5.2) (vL33_2 + (-1 : Int32)) _ _ _ hP hD hS (lv_sub hl [1, 2, 0] rfl) h
  exact hL33 FU a_t_tape_bytes t_tape_size (p1 - (1 : Int32)) _ _ _ hP hD hS (lv_sub hl [1, 2, 0] rfl) h

/-! X8_wipe -/
set_option maxHeartbeats 4000000 in
set_option maxRecDepth 100000 in
theorem c_X8_wipe (l : Launch) (G : va_G) (cI cJ cD cH : ClassId) (sz : Nat) (h_t : Nat) (h_t_tape : Nat) (h_t_desk : Nat) (h_t_imageDesk : Nat) (h_t_deeds : Nat) (h_t_numbers : Nat) (h_t_reader : Nat) (h_t_speller : Nat) (h_t_holders : Nat) (h_t_tape_bytes : Nat) (t_imageKept : Int32) (t_tape_size : Int32) (r0 : Int32) (w0 : Int32) (hF : F_X8_wipe t_tape_size = some (r0, w0)) : Met l yX8_wipe wsX8_wipe ({ frames := 0, cells := 0, slots := 0, locals := 0 }) (k_pre G (k_T cI cJ cD cH) [(h_t, .inr (7, [.ref h_t_desk, .ref h_t_imageDesk, .ref h_t_deeds, .ref h_t_numbers, .ref h_t_tape, .ref h_t_reader, .ref h_t_speller, .ref h_t_holders, .int t_imageKept])), (h_t_tape, .inr (6, [.ref h_t_tape_bytes, .int t_tape_size]))] sz [.ref h_t]) (va_Qi (fun r (_ : Unit) => r = r0 ∧ True) (fun _ t => va_P G vwCl [(h_t, .inr (7, [.ref h_t_desk, .ref h_t_imageDesk, .ref h_t_deeds, .ref h_t_numbers, .ref h_t_tape, .ref h_t_reader, .ref h_t_speller, .ref h_t_holders, .int t_imageKept])), (h_t_tape, .inr (6, [.ref h_t_tape_bytes, .int w0]))] t.heap) (va_A [(h_t, .inr (7, [.ref h_t_desk, .ref h_t_imageDesk, .ref h_t_deeds, .ref h_t_numbers, .ref h_t_tape, .ref h_t_reader, .ref h_t_speller, .ref h_t_holders, .int t_imageKept])), (h_t_tape, .inr (6, [.ref h_t_tape_bytes, .int t_tape_size]))] sz)) 0 0 (va_A [(h_t, .inr (7, [.ref h_t_desk, .ref h_t_imageDesk, .ref h_t_deeds, .ref h_t_numbers, .ref h_t_tape, .ref h_t_reader, .ref h_t_speller, .ref h_t_holders, .int t_imageKept])), (h_t_tape, .inr (6, [.ref h_t_tape_bytes, .int t_tape_size]))] sz) := by
  refine Met.ofW (cc := cX8_wipe) (maxL := 2) (ret := (some .int)) (by decide) rfl ?_
  intro p e s m args below meth c s₁ B hml hv
  obtain ⟨rfl, hsz, hP, hK, hD0⟩ := hv
  have hx := B.exec
  have hb := B.bytes
  have hr := B.returns
  have hts := atoms_spec (ws := wsX8_wipe) B.pre
  have hta : ∀ w ∈ wA, w.before ([.ref h_t] : List Value).toArray s = true := hta_of hts
  have hown : s.vm.findClass RX8 = some m.cls := findClass_of_methodNamed B.named
  have hlocks := B.notSynchronized
  subst hsz
  have hD := hD0.self (sz := s.heap.size)
  generalize hAe : va_A [(h_t, .inr (7, [.ref h_t_desk, .ref h_t_imageDesk, .ref h_t_deeds, .ref h_t_numbers, .ref h_t_tape, .ref h_t_reader, .ref h_t_speller, .ref h_t_holders, .int t_imageKept])), (h_t_tape, .inr (6, [.ref h_t_tape_bytes, .int t_tape_size]))] s.heap.size = A at hD ⊢
  have hA : ∀ q : Nat, s.heap.size ≤ q → A q := fun q h => by rw [← hAe]; exact Or.inr h
  have hS : va_S A s.heap s.heap [] := va_S.rf
  have hl := lv_entry ([.ref h_t]) (n := 2) (Nat.le_of_ble_eq_true rfl)
  rw [lg_entry_eq]
  generalize (lg_sl ([.ref h_t]) ++ List.replicate (2 - (lg_sl ([.ref h_t])).length) Slot.unset).toArray = ls at hl ⊢
  have hl : lv_has ls 2 [(0, .ref h_t)] := hl
  have hinX7 : ∀ w ∈ wsX70, w ∈ wsX8_wipe := hin_of in_X7
  have hinX8 : ∀ w ∈ wsX80, w ∈ wsX8_wipe := hin_of in_X8
  have h := hF
  unfold F_X8_wipe at h
  refine lv_aload_n hx hb dX8_wipe_0 rfl (lv_at hl 0 rfl) ?_
  refine va_get (D := G) (ci := 7) (v := .ref h_t_tape) (C := RX8) (T := TX8) (N := 9) hx hb hts hinX8 hown hK hP 0 rfl rfl 4 (by decide) (hta _ mw_366) (fun _ h9 => h9) rfl dX8_wipe_1 ?_
  refine va_get (D := G) (ci := 6) (v := .int t_tape_size) (C := RX7) (T := TX7) (N := 2) hx hb hts hinX7 hown hK hP 1 rfl rfl 1 (by decide) (hta _ mw_532) (fun _ h9 => h9) rfl dX8_wipe_4 ?_
  refine lv_istore_n (lv' := [(1, .int t_tape_size), (0, .ref h_t)]) hx hb dX8_wipe_7 rfl hl (by decide) rfl (fun ls hl => ?_)
  refine lv_aload_n hx hb dX8_wipe_8 rfl (lv_at hl 1 rfl) ?_
  refine va_get (D := G) (ci := 7) (v := .ref h_t_tape) (C := RX8) (T := TX8) (N := 9) hx hb hts hinX8 hown hK hP 0 rfl rfl 4 (by decide) (hta _ mw_366) (fun _ h9 => h9) rfl dX8_wipe_9 ?_
  refine lv_iconst (v := (0 : Int32)) hx hb dX8_wipe_12 (by decide) ?_
  refine va_put (D := G) (ci := 6) (v := .int (0 : Int32)) (ty := .int) (C := RX7) (T := TX7) (N := 2) hx hb hts hinX7 tyX7 tyX7_ok nmX7 hown hK hP hD hS 1 rfl rfl 1 (by decide) (hta _ mw_532) (fun _ h9 => h9) rfl (by decide +kernel) rfl rfl (Nat.le_of_ble_eq_true rfl) dX8_wipe_13 (fun H locs hP hD hS => ?_)
  have hP : va_P G vwCl [(h_t, .inr (7, [.ref h_t_desk, .ref h_t_imageDesk, .ref h_t_deeds, .ref h_t_numbers, .ref h_t_tape, .ref h_t_reader, .ref h_t_speller, .ref h_t_holders, .int t_imageKept])), (h_t_tape, .inr (6, [.ref h_t_tape_bytes, .int (0 : Int32)]))] H := hP
  have hD : va_D A [(h_t, .inr (7, [.ref h_t_desk, .ref h_t_imageDesk, .ref h_t_deeds, .ref h_t_numbers, .ref h_t_tape, .ref h_t_reader, .ref h_t_speller, .ref h_t_holders, .int t_imageKept])), (h_t_tape, .inr (6, [.ref h_t_tape_bytes, .int (0 : Int32)]))] := hD
  refine lv_iload_n hx hb dX8_wipe_16 rfl (lv_at hl 0 rfl) ?_
  have h9 := Option.some.inj h
  have e9 : t_tape_size = r0 := congrArg (fun z9 => z9.1) h9
  subst e9
  have e9 : (0 : Int32) = w0 := congrArg (fun z9 => z9.2) h9
  subst e9
  exact k_iret hx hb hr hlocks hP hS rfl dX8_wipe_17

/-! X8_read -/
set_option maxHeartbeats 40000000 in
set_option maxRecDepth 100000 in
theorem c_X8_read (l : Launch) (G : va_G) (cI cJ cD cH : ClassId) (sz : Nat) (h_t : Nat) (h_t_reader : Nat) (h_t_desk : Nat) (h_t_reader_told : Nat) (h_t_reader_told_powers : Nat) (h_t_desk_powers : Nat) (h_t_reader_tape : Nat) (h_t_reader_tape_bytes : Nat) (h_t_reader_causes : Nat) (h_t_tape : Nat) (h_t_deeds : Nat) (h_t_deeds_desks : Nat) (h_t_imageDesk : Nat) (h_t_numbers : Nat) (h_t_speller : Nat) (h_t_holders : Nat) (h_t_tape_bytes : Nat) (d_t_deeds_desks : Nat → Nat) (q_t_deeds_desks : Nat → Nat) (a_t_deeds_desks : Nat → Nat → Int32) (t_deeds_desks_genus : Nat → Int32) (t_deeds_desks_size : Nat → Int32) (t_deeds_desks_limit : Nat → Int32) (t_deeds_desks_tree : Nat → Int64) (t_imageKept : Int32) (t_reader_refused : Int32) (t_reader_place : Int32) (t_reader_cannotBe : Int32) (t_desk_genus : Int32) (t_desk_size : Int32) (t_desk_limit : Int32) (t_desk_tree : Int64) (t_reader_told_genus : Int32) (t_reader_told_size : Int32) (t_reader_told_limit : Int32) (t_reader_told_tree : Int64) (a_t_reader_told_powers : Nat → Int32) (a_t_desk_powers : Nat → Int32) (t_reader_tape_size : Int32) (a_t_reader_tape_bytes : Nat → Int32) (a_t_reader_causes : Nat → Int32) (t_tape_size : Int32) (t_deeds_now : Int32) (t_deeds_last : Int32) (r0 : Int32) (w0 : Nat → Int32) (w1 : Nat → Int32) (w2 : Nat → Int32) (w3 : Int32) (w4 : Int32) (w5 : Int32) (w6 : Int32) (w7 : Int32) (w8 : Int32) (w9 : Int32) (w10 : Int32) (w11 : Int64) (w12 : Int32) (w13 : Int32) (w14 : Int32) (w15 : Int64) (w16 : Int32) (w17 : Nat → Nat → Int32) (w18 : Nat → Nat) (w19 : Nat → Int32) (w20 : Nat → Int32) (w21 : Nat → Nat) (w22 : Nat → Int32) (w23 : Nat → Int64) (hF : F_X8_read d_t_deeds_desks q_t_deeds_desks a_t_deeds_desks t_deeds_desks_genus t_deeds_desks_size t_deeds_desks_limit t_deeds_desks_tree t_reader_refused t_desk_genus t_desk_size t_desk_limit t_desk_tree a_t_reader_told_powers a_t_desk_powers t_reader_tape_size a_t_reader_tape_bytes a_t_reader_causes t_deeds_now t_deeds_last = some (r0, w0, w1, w2, w3, w4, w5, w6, w7, w8, w9, w10, w11, w12, w13, w14, w15, w16, w17, w18, w19, w20, w21, w22, w23)) : Met l yX8_read wsX8_read ({ frames := 7, cells := 0, slots := 0, locals := 157 }) (k_pre G (k_T cI cJ cD cH) [(h_t, .inr (7, [.ref h_t_desk, .ref h_t_imageDesk, .ref h_t_deeds, .ref h_t_numbers, .ref h_t_tape, .ref h_t_reader, .ref h_t_speller, .ref h_t_holders, .int t_imageKept])), (h_t_reader, .inr (4, [.ref h_t_reader_tape, .ref h_t_reader_told, .ref h_t_reader_causes, .int t_reader_refused, .int t_reader_place, .int t_reader_cannotBe])), (h_t_desk, .inr (1, [.int t_desk_genus, .int t_desk_size, .ref h_t_desk_powers, .int t_desk_limit, .long t_desk_tree])), (h_t_reader_told, .inr (1, [.int t_reader_told_genus, .int t_reader_told_size, .ref h_t_reader_told_powers, .int t_reader_told_limit, .long t_reader_told_tree])), (h_t_reader_told_powers, .inl (cI, 8, .inl a_t_reader_told_powers)), (h_t_desk_powers, .inl (cI, 8, .inl a_t_desk_powers)), (h_t_reader_tape, .inr (6, [.ref h_t_reader_tape_bytes, .int t_reader_tape_size])), (h_t_reader_tape_bytes, .inl (cI, 60, .inl a_t_reader_tape_bytes)), (h_t_reader_causes, .inl (cI, 6, .inl a_t_reader_causes)), (h_t_tape, .inr (6, [.ref h_t_tape_bytes, .int t_tape_size])), (h_t_deeds, .inr (0, [.ref h_t_deeds_desks, .int t_deeds_now, .int t_deeds_last])), (h_t_deeds_desks, .inl (cD, 9, .inr (.inr (.inr (.inr (fun i => some (d_t_deeds_desks i))))))), ((d_t_deeds_desks 0), .inr (1, [.int (t_deeds_desks_genus 0), .int (t_deeds_desks_size 0), .ref (q_t_deeds_desks 0), .int (t_deeds_desks_limit 0), .long (t_deeds_desks_tree 0)])), ((q_t_deeds_desks 0), .inl (cI, 8, .inl (a_t_deeds_desks 0))), ((d_t_deeds_desks 1), .inr (1, [.int (t_deeds_desks_genus 1), .int (t_deeds_desks_size 1), .ref (q_t_deeds_desks 1), .int (t_deeds_desks_limit 1), .long (t_deeds_desks_tree 1)])), ((q_t_deeds_desks 1), .inl (cI, 8, .inl (a_t_deeds_desks 1))), ((d_t_deeds_desks 2), .inr (1, [.int (t_deeds_desks_genus 2), .int (t_deeds_desks_size 2), .ref (q_t_deeds_desks 2), .int (t_deeds_desks_limit 2), .long (t_deeds_desks_tree 2)])), ((q_t_deeds_desks 2), .inl (cI, 8, .inl (a_t_deeds_desks 2))), ((d_t_deeds_desks 3), .inr (1, [.int (t_deeds_desks_genus 3), .int (t_deeds_desks_size 3), .ref (q_t_deeds_desks 3), .int (t_deeds_desks_limit 3), .long (t_deeds_desks_tree 3)])), ((q_t_deeds_desks 3), .inl (cI, 8, .inl (a_t_deeds_desks 3))), ((d_t_deeds_desks 4), .inr (1, [.int (t_deeds_desks_genus 4), .int (t_deeds_desks_size 4), .ref (q_t_deeds_desks 4), .int (t_deeds_desks_limit 4), .long (t_deeds_desks_tree 4)])), ((q_t_deeds_desks 4), .inl (cI, 8, .inl (a_t_deeds_desks 4))), ((d_t_deeds_desks 5), .inr (1, [.int (t_deeds_desks_genus 5), .int (t_deeds_desks_size 5), .ref (q_t_deeds_desks 5), .int (t_deeds_desks_limit 5), .long (t_deeds_desks_tree 5)])), ((q_t_deeds_desks 5), .inl (cI, 8, .inl (a_t_deeds_desks 5))), ((d_t_deeds_desks 6), .inr (1, [.int (t_deeds_desks_genus 6), .int (t_deeds_desks_size 6), .ref (q_t_deeds_desks 6), .int (t_deeds_desks_limit 6), .long (t_deeds_desks_tree 6)])), ((q_t_deeds_desks 6), .inl (cI, 8, .inl (a_t_deeds_desks 6))), ((d_t_deeds_desks 7), .inr (1, [.int (t_deeds_desks_genus 7), .int (t_deeds_desks_size 7), .ref (q_t_deeds_desks 7), .int (t_deeds_desks_limit 7), .long (t_deeds_desks_tree 7)])), ((q_t_deeds_desks 7), .inl (cI, 8, .inl (a_t_deeds_desks 7))), ((d_t_deeds_desks 8), .inr (1, [.int (t_deeds_desks_genus 8), .int (t_deeds_desks_size 8), .ref (q_t_deeds_desks 8), .int (t_deeds_desks_limit 8), .long (t_deeds_desks_tree 8)])), ((q_t_deeds_desks 8), .inl (cI, 8, .inl (a_t_deeds_desks 8)))] sz [.ref h_t]) (va_Qi (fun r (_ : Unit) => r = r0 ∧ True) (fun _ t => va_P G vwCl [(h_t, .inr (7, [.ref h_t_desk, .ref h_t_imageDesk, .ref h_t_deeds, .ref h_t_numbers, .ref h_t_tape, .ref h_t_reader, .ref h_t_speller, .ref h_t_holders, .int t_imageKept])), (h_t_reader, .inr (4, [.ref h_t_reader_tape, .ref h_t_reader_told, .ref h_t_reader_causes, .int w3, .int w4, .int w5])), (h_t_desk, .inr (1, [.int w8, .int w9, .ref h_t_desk_powers, .int w10, .long w11])), (h_t_reader_told, .inr (1, [.int w12, .int w13, .ref h_t_reader_told_powers, .int w14, .long w15])), (h_t_reader_told_powers, .inl (cI, 8, .inl w0)), (h_t_desk_powers, .inl (cI, 8, .inl w1)), (h_t_reader_tape, .inr (6, [.ref h_t_reader_tape_bytes, .int t_reader_tape_size])), (h_t_reader_tape_bytes, .inl (cI, 60, .inl a_t_reader_tape_bytes)), (h_t_reader_causes, .inl (cI, 6, .inl w2)), (h_t_tape, .inr (6, [.ref h_t_tape_bytes, .int w16])), (h_t_deeds, .inr (0, [.ref h_t_deeds_desks, .int w6, .int w7])), (h_t_deeds_desks, .inl (cD, 9, .inr (.inr (.inr (.inr (fun i => some (w18 i))))))), ((w18 0), .inr (1, [.int (w19 0), .int (w22 0), .ref (w21 0), .int (w20 0), .long (w23 0)])), ((w21 0), .inl (cI, 8, .inl (w17 0))), ((w18 1), .inr (1, [.int (w19 1), .int (w22 1), .ref (w21 1), .int (w20 1), .long (w23 1)])), ((w21 1), .inl (cI, 8, .inl (w17 1))), ((w18 2), .inr (1, [.int (w19 2), .int (w22 2), .ref (w21 2), .int (w20 2), .long (w23 2)])), ((w21 2), .inl (cI, 8, .inl (w17 2))), ((w18 3), .inr (1, [.int (w19 3), .int (w22 3), .ref (w21 3), .int (w20 3), .long (w23 3)])), ((w21 3), .inl (cI, 8, .inl (w17 3))), ((w18 4), .inr (1, [.int (w19 4), .int (w22 4), .ref (w21 4), .int (w20 4), .long (w23 4)])), ((w21 4), .inl (cI, 8, .inl (w17 4))), ((w18 5), .inr (1, [.int (w19 5), .int (w22 5), .ref (w21 5), .int (w20 5), .long (w23 5)])), ((w21 5), .inl (cI, 8, .inl (w17 5))), ((w18 6), .inr (1, [.int (w19 6), .int (w22 6), .ref (w21 6), .int (w20 6), .long (w23 6)])), ((w21 6), .inl (cI, 8, .inl (w17 6))), ((w18 7), .inr (1, [.int (w19 7), .int (w22 7), .ref (w21 7), .int (w20 7), .long (w23 7)])), ((w21 7), .inl (cI, 8, .inl (w17 7))), ((w18 8), .inr (1, [.int (w19 8), .int (w22 8), .ref (w21 8), .int (w20 8), .long (w23 8)])), ((w21 8), .inl (cI, 8, .inl (w17 8)))] t.heap ∧ va_D (va_A [(h_t, .inr (7, [.ref h_t_desk, .ref h_t_imageDesk, .ref h_t_deeds, .ref h_t_numbers, .ref h_t_tape, .ref h_t_reader, .ref h_t_speller, .ref h_t_holders, .int t_imageKept])), (h_t_reader, .inr (4, [.ref h_t_reader_tape, .ref h_t_reader_told, .ref h_t_reader_causes, .int t_reader_refused, .int t_reader_place, .int t_reader_cannotBe])), (h_t_desk, .inr (1, [.int t_desk_genus, .int t_desk_size, .ref h_t_desk_powers, .int t_desk_limit, .long t_desk_tree])), (h_t_reader_told, .inr (1, [.int t_reader_told_genus, .int t_reader_told_size, .ref h_t_reader_told_powers, .int t_reader_told_limit, .long t_reader_told_tree])), (h_t_reader_told_powers, .inl (cI, 8, .inl a_t_reader_told_powers)), (h_t_desk_powers, .inl (cI, 8, .inl a_t_desk_powers)), (h_t_reader_tape, .inr (6, [.ref h_t_reader_tape_bytes, .int t_reader_tape_size])), (h_t_reader_tape_bytes, .inl (cI, 60, .inl a_t_reader_tape_bytes)), (h_t_reader_causes, .inl (cI, 6, .inl a_t_reader_causes)), (h_t_tape, .inr (6, [.ref h_t_tape_bytes, .int t_tape_size])), (h_t_deeds, .inr (0, [.ref h_t_deeds_desks, .int t_deeds_now, .int t_deeds_last])), (h_t_deeds_desks, .inl (cD, 9, .inr (.inr (.inr (.inr (fun i => some (d_t_deeds_desks i))))))), ((d_t_deeds_desks 0), .inr (1, [.int (t_deeds_desks_genus 0), .int (t_deeds_desks_size 0), .ref (q_t_deeds_desks 0), .int (t_deeds_desks_limit 0), .long (t_deeds_desks_tree 0)])), ((q_t_deeds_desks 0), .inl (cI, 8, .inl (a_t_deeds_desks 0))), ((d_t_deeds_desks 1), .inr (1, [.int (t_deeds_desks_genus 1), .int (t_deeds_desks_size 1), .ref (q_t_deeds_desks 1), .int (t_deeds_desks_limit 1), .long (t_deeds_desks_tree 1)])), ((q_t_deeds_desks 1), .inl (cI, 8, .inl (a_t_deeds_desks 1))), ((d_t_deeds_desks 2), .inr (1, [.int (t_deeds_desks_genus 2), .int (t_deeds_desks_size 2), .ref (q_t_deeds_desks 2), .int (t_deeds_desks_limit 2), .long (t_deeds_desks_tree 2)])), ((q_t_deeds_desks 2), .inl (cI, 8, .inl (a_t_deeds_desks 2))), ((d_t_deeds_desks 3), .inr (1, [.int (t_deeds_desks_genus 3), .int (t_deeds_desks_size 3), .ref (q_t_deeds_desks 3), .int (t_deeds_desks_limit 3), .long (t_deeds_desks_tree 3)])), ((q_t_deeds_desks 3), .inl (cI, 8, .inl (a_t_deeds_desks 3))), ((d_t_deeds_desks 4), .inr (1, [.int (t_deeds_desks_genus 4), .int (t_deeds_desks_size 4), .ref (q_t_deeds_desks 4), .int (t_deeds_desks_limit 4), .long (t_deeds_desks_tree 4)])), ((q_t_deeds_desks 4), .inl (cI, 8, .inl (a_t_deeds_desks 4))), ((d_t_deeds_desks 5), .inr (1, [.int (t_deeds_desks_genus 5), .int (t_deeds_desks_size 5), .ref (q_t_deeds_desks 5), .int (t_deeds_desks_limit 5), .long (t_deeds_desks_tree 5)])), ((q_t_deeds_desks 5), .inl (cI, 8, .inl (a_t_deeds_desks 5))), ((d_t_deeds_desks 6), .inr (1, [.int (t_deeds_desks_genus 6), .int (t_deeds_desks_size 6), .ref (q_t_deeds_desks 6), .int (t_deeds_desks_limit 6), .long (t_deeds_desks_tree 6)])), ((q_t_deeds_desks 6), .inl (cI, 8, .inl (a_t_deeds_desks 6))), ((d_t_deeds_desks 7), .inr (1, [.int (t_deeds_desks_genus 7), .int (t_deeds_desks_size 7), .ref (q_t_deeds_desks 7), .int (t_deeds_desks_limit 7), .long (t_deeds_desks_tree 7)])), ((q_t_deeds_desks 7), .inl (cI, 8, .inl (a_t_deeds_desks 7))), ((d_t_deeds_desks 8), .inr (1, [.int (t_deeds_desks_genus 8), .int (t_deeds_desks_size 8), .ref (q_t_deeds_desks 8), .int (t_deeds_desks_limit 8), .long (t_deeds_desks_tree 8)])), ((q_t_deeds_desks 8), .inl (cI, 8, .inl (a_t_deeds_desks 8)))] sz) [(h_t, .inr (7, [.ref h_t_desk, .ref h_t_imageDesk, .ref h_t_deeds, .ref h_t_numbers, .ref h_t_tape, .ref h_t_reader, .ref h_t_speller, .ref h_t_holders, .int t_imageKept])), (h_t_reader, .inr (4, [.ref h_t_reader_tape, .ref h_t_reader_told, .ref h_t_reader_causes, .int w3, .int w4, .int w5])), (h_t_desk, .inr (1, [.int w8, .int w9, .ref h_t_desk_powers, .int w10, .long w11])), (h_t_reader_told, .inr (1, [.int w12, .int w13, .ref h_t_reader_told_powers, .int w14, .long w15])), (h_t_reader_told_powers, .inl (cI, 8, .inl w0)), (h_t_desk_powers, .inl (cI, 8, .inl w1)), (h_t_reader_tape, .inr (6, [.ref h_t_reader_tape_bytes, .int t_reader_tape_size])), (h_t_reader_tape_bytes, .inl (cI, 60, .inl a_t_reader_tape_bytes)), (h_t_reader_causes, .inl (cI, 6, .inl w2)), (h_t_tape, .inr (6, [.ref h_t_tape_bytes, .int w16])), (h_t_deeds, .inr (0, [.ref h_t_deeds_desks, .int w6, .int w7])), (h_t_deeds_desks, .inl (cD, 9, .inr (.inr (.inr (.inr (fun i => some (w18 i))))))), ((w18 0), .inr (1, [.int (w19 0), .int (w22 0), .ref (w21 0), .int (w20 0), .long (w23 0)])), ((w21 0), .inl (cI, 8, .inl (w17 0))), ((w18 1), .inr (1, [.int (w19 1), .int (w22 1), .ref (w21 1), .int (w20 1), .long (w23 1)])), ((w21 1), .inl (cI, 8, .inl (w17 1))), ((w18 2), .inr (1, [.int (w19 2), .int (w22 2), .ref (w21 2), .int (w20 2), .long (w23 2)])), ((w21 2), .inl (cI, 8, .inl (w17 2))), ((w18 3), .inr (1, [.int (w19 3), .int (w22 3), .ref (w21 3), .int (w20 3), .long (w23 3)])), ((w21 3), .inl (cI, 8, .inl (w17 3))), ((w18 4), .inr (1, [.int (w19 4), .int (w22 4), .ref (w21 4), .int (w20 4), .long (w23 4)])), ((w21 4), .inl (cI, 8, .inl (w17 4))), ((w18 5), .inr (1, [.int (w19 5), .int (w22 5), .ref (w21 5), .int (w20 5), .long (w23 5)])), ((w21 5), .inl (cI, 8, .inl (w17 5))), ((w18 6), .inr (1, [.int (w19 6), .int (w22 6), .ref (w21 6), .int (w20 6), .long (w23 6)])), ((w21 6), .inl (cI, 8, .inl (w17 6))), ((w18 7), .inr (1, [.int (w19 7), .int (w22 7), .ref (w21 7), .int (w20 7), .long (w23 7)])), ((w21 7), .inl (cI, 8, .inl (w17 7))), ((w18 8), .inr (1, [.int (w19 8), .int (w22 8), .ref (w21 8), .int (w20 8), .long (w23 8)])), ((w21 8), .inl (cI, 8, .inl (w17 8)))]) (va_A [(h_t, .inr (7, [.ref h_t_desk, .ref h_t_imageDesk, .ref h_t_deeds, .ref h_t_numbers, .ref h_t_tape, .ref h_t_reader, .ref h_t_speller, .ref h_t_holders, .int t_imageKept])), (h_t_reader, .inr (4, [.ref h_t_reader_tape, .ref h_t_reader_told, .ref h_t_reader_causes, .int t_reader_refused, .int t_reader_place, .int t_reader_cannotBe])), (h_t_desk, .inr (1, [.int t_desk_genus, .int t_desk_size, .ref h_t_desk_powers, .int t_desk_limit, .long t_desk_tree])), (h_t_reader_told, .inr (1, [.int t_reader_told_genus, .int t_reader_told_size, .ref h_t_reader_told_powers, .int t_reader_told_limit, .long t_reader_told_tree])), (h_t_reader_told_powers, .inl (cI, 8, .inl a_t_reader_told_powers)), (h_t_desk_powers, .inl (cI, 8, .inl a_t_desk_powers)), (h_t_reader_tape, .inr (6, [.ref h_t_reader_tape_bytes, .int t_reader_tape_size])), (h_t_reader_tape_bytes, .inl (cI, 60, .inl a_t_reader_tape_bytes)), (h_t_reader_causes, .inl (cI, 6, .inl a_t_reader_causes)), (h_t_tape, .inr (6, [.ref h_t_tape_bytes, .int t_tape_size])), (h_t_deeds, .inr (0, [.ref h_t_deeds_desks, .int t_deeds_now, .int t_deeds_last])), (h_t_deeds_desks, .inl (cD, 9, .inr (.inr (.inr (.inr (fun i => some (d_t_deeds_desks i))))))), ((d_t_deeds_desks 0), .inr (1, [.int (t_deeds_desks_genus 0), .int (t_deeds_desks_size 0), .ref (q_t_deeds_desks 0), .int (t_deeds_desks_limit 0), .long (t_deeds_desks_tree 0)])), ((q_t_deeds_desks 0), .inl (cI, 8, .inl (a_t_deeds_desks 0))), ((d_t_deeds_desks 1), .inr (1, [.int (t_deeds_desks_genus 1), .int (t_deeds_desks_size 1), .ref (q_t_deeds_desks 1), .int (t_deeds_desks_limit 1), .long (t_deeds_desks_tree 1)])), ((q_t_deeds_desks 1), .inl (cI, 8, .inl (a_t_deeds_desks 1))), ((d_t_deeds_desks 2), .inr (1, [.int (t_deeds_desks_genus 2), .int (t_deeds_desks_size 2), .ref (q_t_deeds_desks 2), .int (t_deeds_desks_limit 2), .long (t_deeds_desks_tree 2)])), ((q_t_deeds_desks 2), .inl (cI, 8, .inl (a_t_deeds_desks 2))), ((d_t_deeds_desks 3), .inr (1, [.int (t_deeds_desks_genus 3), .int (t_deeds_desks_size 3), .ref (q_t_deeds_desks 3), .int (t_deeds_desks_limit 3), .long (t_deeds_desks_tree 3)])), ((q_t_deeds_desks 3), .inl (cI, 8, .inl (a_t_deeds_desks 3))), ((d_t_deeds_desks 4), .inr (1, [.int (t_deeds_desks_genus 4), .int (t_deeds_desks_size 4), .ref (q_t_deeds_desks 4), .int (t_deeds_desks_limit 4), .long (t_deeds_desks_tree 4)])), ((q_t_deeds_desks 4), .inl (cI, 8, .inl (a_t_deeds_desks 4))), ((d_t_deeds_desks 5), .inr (1, [.int (t_deeds_desks_genus 5), .int (t_deeds_desks_size 5), .ref (q_t_deeds_desks 5), .int (t_deeds_desks_limit 5), .long (t_deeds_desks_tree 5)])), ((q_t_deeds_desks 5), .inl (cI, 8, .inl (a_t_deeds_desks 5))), ((d_t_deeds_desks 6), .inr (1, [.int (t_deeds_desks_genus 6), .int (t_deeds_desks_size 6), .ref (q_t_deeds_desks 6), .int (t_deeds_desks_limit 6), .long (t_deeds_desks_tree 6)])), ((q_t_deeds_desks 6), .inl (cI, 8, .inl (a_t_deeds_desks 6))), ((d_t_deeds_desks 7), .inr (1, [.int (t_deeds_desks_genus 7), .int (t_deeds_desks_size 7), .ref (q_t_deeds_desks 7), .int (t_deeds_desks_limit 7), .long (t_deeds_desks_tree 7)])), ((q_t_deeds_desks 7), .inl (cI, 8, .inl (a_t_deeds_desks 7))), ((d_t_deeds_desks 8), .inr (1, [.int (t_deeds_desks_genus 8), .int (t_deeds_desks_size 8), .ref (q_t_deeds_desks 8), .int (t_deeds_desks_limit 8), .long (t_deeds_desks_tree 8)])), ((q_t_deeds_desks 8), .inl (cI, 8, .inl (a_t_deeds_desks 8)))] sz)) 0 0 (va_A [(h_t, .inr (7, [.ref h_t_desk, .ref h_t_imageDesk, .ref h_t_deeds, .ref h_t_numbers, .ref h_t_tape, .ref h_t_reader, .ref h_t_speller, .ref h_t_holders, .int t_imageKept])), (h_t_reader, .inr (4, [.ref h_t_reader_tape, .ref h_t_reader_told, .ref h_t_reader_causes, .int t_reader_refused, .int t_reader_place, .int t_reader_cannotBe])), (h_t_desk, .inr (1, [.int t_desk_genus, .int t_desk_size, .ref h_t_desk_powers, .int t_desk_limit, .long t_desk_tree])), (h_t_reader_told, .inr (1, [.int t_reader_told_genus, .int t_reader_told_size, .ref h_t_reader_told_powers, .int t_reader_told_limit, .long t_reader_told_tree])), (h_t_reader_told_powers, .inl (cI, 8, .inl a_t_reader_told_powers)), (h_t_desk_powers, .inl (cI, 8, .inl a_t_desk_powers)), (h_t_reader_tape, .inr (6, [.ref h_t_reader_tape_bytes, .int t_reader_tape_size])), (h_t_reader_tape_bytes, .inl (cI, 60, .inl a_t_reader_tape_bytes)), (h_t_reader_causes, .inl (cI, 6, .inl a_t_reader_causes)), (h_t_tape, .inr (6, [.ref h_t_tape_bytes, .int t_tape_size])), (h_t_deeds, .inr (0, [.ref h_t_deeds_desks, .int t_deeds_now, .int t_deeds_last])), (h_t_deeds_desks, .inl (cD, 9, .inr (.inr (.inr (.inr (fun i => some (d_t_deeds_desks i))))))), ((d_t_deeds_desks 0), .inr (1, [.int (t_deeds_desks_genus 0), .int (t_deeds_desks_size 0), .ref (q_t_deeds_desks 0), .int (t_deeds_desks_limit 0), .long (t_deeds_desks_tree 0)])), ((q_t_deeds_desks 0), .inl (cI, 8, .inl (a_t_deeds_desks 0))), ((d_t_deeds_desks 1), .inr (1, [.int (t_deeds_desks_genus 1), .int (t_deeds_desks_size 1), .ref (q_t_deeds_desks 1), .int (t_deeds_desks_limit 1), .long (t_deeds_desks_tree 1)])), ((q_t_deeds_desks 1), .inl (cI, 8, .inl (a_t_deeds_desks 1))), ((d_t_deeds_desks 2), .inr (1, [.int (t_deeds_desks_genus 2), .int (t_deeds_desks_size 2), .ref (q_t_deeds_desks 2), .int (t_deeds_desks_limit 2), .long (t_deeds_desks_tree 2)])), ((q_t_deeds_desks 2), .inl (cI, 8, .inl (a_t_deeds_desks 2))), ((d_t_deeds_desks 3), .inr (1, [.int (t_deeds_desks_genus 3), .int (t_deeds_desks_size 3), .ref (q_t_deeds_desks 3), .int (t_deeds_desks_limit 3), .long (t_deeds_desks_tree 3)])), ((q_t_deeds_desks 3), .inl (cI, 8, .inl (a_t_deeds_desks 3))), ((d_t_deeds_desks 4), .inr (1, [.int (t_deeds_desks_genus 4), .int (t_deeds_desks_size 4), .ref (q_t_deeds_desks 4), .int (t_deeds_desks_limit 4), .long (t_deeds_desks_tree 4)])), ((q_t_deeds_desks 4), .inl (cI, 8, .inl (a_t_deeds_desks 4))), ((d_t_deeds_desks 5), .inr (1, [.int (t_deeds_desks_genus 5), .int (t_deeds_desks_size 5), .ref (q_t_deeds_desks 5), .int (t_deeds_desks_limit 5), .long (t_deeds_desks_tree 5)])), ((q_t_deeds_desks 5), .inl (cI, 8, .inl (a_t_deeds_desks 5))), ((d_t_deeds_desks 6), .inr (1, [.int (t_deeds_desks_genus 6), .int (t_deeds_desks_size 6), .ref (q_t_deeds_desks 6), .int (t_deeds_desks_limit 6), .long (t_deeds_desks_tree 6)])), ((q_t_deeds_desks 6), .inl (cI, 8, .inl (a_t_deeds_desks 6))), ((d_t_deeds_desks 7), .inr (1, [.int (t_deeds_desks_genus 7), .int (t_deeds_desks_size 7), .ref (q_t_deeds_desks 7), .int (t_deeds_desks_limit 7), .long (t_deeds_desks_tree 7)])), ((q_t_deeds_desks 7), .inl (cI, 8, .inl (a_t_deeds_desks 7))), ((d_t_deeds_desks 8), .inr (1, [.int (t_deeds_desks_genus 8), .int (t_deeds_desks_size 8), .ref (q_t_deeds_desks 8), .int (t_deeds_desks_limit 8), .long (t_deeds_desks_tree 8)])), ((q_t_deeds_desks 8), .inl (cI, 8, .inl (a_t_deeds_desks 8)))] sz) := by
  refine Met.ofW (cc := cX8_read) (maxL := 2) (ret := (some .int)) (by decide) rfl ?_
  intro p e s m args below meth c s₁ B hml hv
  obtain ⟨rfl, hsz, hP, hK, hD0⟩ := hv
  have hx := B.exec
  have hb := B.bytes
  have hr := B.returns
  have hts := atoms_spec (ws := wsX8_read) B.pre
  have hta : ∀ w ∈ wA, w.before ([.ref h_t] : List Value).toArray s = true := hta_of hts
  have hown : s.vm.findClass RX8 = some m.cls := findClass_of_methodNamed B.named
  have hlocks := B.notSynchronized
  subst hsz
  have hD := hD0.self (sz := s.heap.size)
  generalize hAe : va_A [(h_t, .inr (7, [.ref h_t_desk, .ref h_t_imageDesk, .ref h_t_deeds, .ref h_t_numbers, .ref h_t_tape, .ref h_t_reader, .ref h_t_speller, .ref h_t_holders, .int t_imageKept])), (h_t_reader, .inr (4, [.ref h_t_reader_tape, .ref h_t_reader_told, .ref h_t_reader_causes, .int t_reader_refused, .int t_reader_place, .int t_reader_cannotBe])), (h_t_desk, .inr (1, [.int t_desk_genus, .int t_desk_size, .ref h_t_desk_powers, .int t_desk_limit, .long t_desk_tree])), (h_t_reader_told, .inr (1, [.int t_reader_told_genus, .int t_reader_told_size, .ref h_t_reader_told_powers, .int t_reader_told_limit, .long t_reader_told_tree])), (h_t_reader_told_powers, .inl (cI, 8, .inl a_t_reader_told_powers)), (h_t_desk_powers, .inl (cI, 8, .inl a_t_desk_powers)), (h_t_reader_tape, .inr (6, [.ref h_t_reader_tape_bytes, .int t_reader_tape_size])), (h_t_reader_tape_bytes, .inl (cI, 60, .inl a_t_reader_tape_bytes)), (h_t_reader_causes, .inl (cI, 6, .inl a_t_reader_causes)), (h_t_tape, .inr (6, [.ref h_t_tape_bytes, .int t_tape_size])), (h_t_deeds, .inr (0, [.ref h_t_deeds_desks, .int t_deeds_now, .int t_deeds_last])), (h_t_deeds_desks, .inl (cD, 9, .inr (.inr (.inr (.inr (fun i => some (d_t_deeds_desks i))))))), ((d_t_deeds_desks 0), .inr (1, [.int (t_deeds_desks_genus 0), .int (t_deeds_desks_size 0), .ref (q_t_deeds_desks 0), .int (t_deeds_desks_limit 0), .long (t_deeds_desks_tree 0)])), ((q_t_deeds_desks 0), .inl (cI, 8, .inl (a_t_deeds_desks 0))), ((d_t_deeds_desks 1), .inr (1, [.int (t_deeds_desks_genus 1), .int (t_deeds_desks_size 1), .ref (q_t_deeds_desks 1), .int (t_deeds_desks_limit 1), .long (t_deeds_desks_tree 1)])), ((q_t_deeds_desks 1), .inl (cI, 8, .inl (a_t_deeds_desks 1))), ((d_t_deeds_desks 2), .inr (1, [.int (t_deeds_desks_genus 2), .int (t_deeds_desks_size 2), .ref (q_t_deeds_desks 2), .int (t_deeds_desks_limit 2), .long (t_deeds_desks_tree 2)])), ((q_t_deeds_desks 2), .inl (cI, 8, .inl (a_t_deeds_desks 2))), ((d_t_deeds_desks 3), .inr (1, [.int (t_deeds_desks_genus 3), .int (t_deeds_desks_size 3), .ref (q_t_deeds_desks 3), .int (t_deeds_desks_limit 3), .long (t_deeds_desks_tree 3)])), ((q_t_deeds_desks 3), .inl (cI, 8, .inl (a_t_deeds_desks 3))), ((d_t_deeds_desks 4), .inr (1, [.int (t_deeds_desks_genus 4), .int (t_deeds_desks_size 4), .ref (q_t_deeds_desks 4), .int (t_deeds_desks_limit 4), .long (t_deeds_desks_tree 4)])), ((q_t_deeds_desks 4), .inl (cI, 8, .inl (a_t_deeds_desks 4))), ((d_t_deeds_desks 5), .inr (1, [.int (t_deeds_desks_genus 5), .int (t_deeds_desks_size 5), .ref (q_t_deeds_desks 5), .int (t_deeds_desks_limit 5), .long (t_deeds_desks_tree 5)])), ((q_t_deeds_desks 5), .inl (cI, 8, .inl (a_t_deeds_desks 5))), ((d_t_deeds_desks 6), .inr (1, [.int (t_deeds_desks_genus 6), .int (t_deeds_desks_size 6), .ref (q_t_deeds_desks 6), .int (t_deeds_desks_limit 6), .long (t_deeds_desks_tree 6)])), ((q_t_deeds_desks 6), .inl (cI, 8, .inl (a_t_deeds_desks 6))), ((d_t_deeds_desks 7), .inr (1, [.int (t_deeds_desks_genus 7), .int (t_deeds_desks_size 7), .ref (q_t_deeds_desks 7), .int (t_deeds_desks_limit 7), .long (t_deeds_desks_tree 7)])), ((q_t_deeds_desks 7), .inl (cI, 8, .inl (a_t_deeds_desks 7))), ((d_t_deeds_desks 8), .inr (1, [.int (t_deeds_desks_genus 8), .int (t_deeds_desks_size 8), .ref (q_t_deeds_desks 8), .int (t_deeds_desks_limit 8), .long (t_deeds_desks_tree 8)])), ((q_t_deeds_desks 8), .inl (cI, 8, .inl (a_t_deeds_desks 8)))] s.heap.size = A at hD ⊢
  have hA : ∀ q : Nat, s.heap.size ≤ q → A q := fun q h => by rw [← hAe]; exact Or.inr h
  have hS : va_S A s.heap s.heap [] := va_S.rf
  have hl := lv_entry ([.ref h_t]) (n := 2) (Nat.le_of_ble_eq_true rfl)
  rw [lg_entry_eq]
  generalize (lg_sl ([.ref h_t]) ++ List.replicate (2 - (lg_sl ([.ref h_t])).length) Slot.unset).toArray = ls at hl ⊢
  have hl : lv_has ls 2 [(0, .ref h_t)] := hl
  have hinX7 : ∀ w ∈ wsX70, w ∈ wsX8_read := hin_of in_X7
  have hinX8 : ∀ w ∈ wsX80, w ∈ wsX8_read := hin_of in_X8
  have h := hF
  unfold F_X8_read at h
  refine lv_aload_n hx hb dX8_read_0 rfl (lv_at hl 0 rfl) ?_
  refine va_get (D := G) (ci := 7) (v := .ref h_t_reader) (C := RX8) (T := TX8) (N := 9) hx hb hts hinX8 hown hK hP 0 rfl rfl 5 (by decide) (hta _ mw_364) (fun _ h9 => h9) rfl dX8_read_1 ?_
  refine lv_aload_n hx hb dX8_read_4 rfl (lv_at hl 0 rfl) ?_
  refine va_get (D := G) (ci := 7) (v := .ref h_t_desk) (C := RX8) (T := TX8) (N := 9) hx hb hts hinX8 hown hK hP 0 rfl rfl 0 (by decide) (hta _ mw_354) (fun _ h9 => h9) rfl dX8_read_5 ?_
  obtain ⟨x1, hx1, h⟩ := bd_e h
  try dsimp only at h
  refine k_Vi (n := 1) (As := [.ref h_t_desk]) (rest := []) hx hb hml hown hts (c_X4_readOver l G cI cJ cD cH s.heap.size h_t_reader h_t_desk h_t_reader_told h_t_reader_told_powers h_t_desk_powers h_t_reader_tape h_t_reader_tape_bytes h_t_reader_causes t_reader_refused t_reader_place t_reader_cannotBe t_desk_genus t_desk_size t_desk_limit t_desk_tree t_reader_told_genus t_reader_told_size t_reader_told_limit t_reader_told_tree a_t_reader_told_powers a_t_desk_powers t_reader_tape_size a_t_reader_tape_bytes a_t_reader_causes (x1.1) (x1.2.1) (x1.2.2.1) (x1.2.2.2.1) (x1.2.2.2.2.1) (x1.2.2.2.2.2.1) (x1.2.2.2.2.2.2.1) (x1.2.2.2.2.2.2.2.1) (x1.2.2.2.2.2.2.2.2.1) (x1.2.2.2.2.2.2.2.2.2.1) (x1.2.2.2.2.2.2.2.2.2.2.1) (x1.2.2.2.2.2.2.2.2.2.2.2.1) (x1.2.2.2.2.2.2.2.2.2.2.2.2.1) (x1.2.2.2.2.2.2.2.2.2.2.2.2.2.1) (x1.2.2.2.2.2.2.2.2.2.2.2.2.2.2) hx1) gX8_read_X4_readOver rfl rfl rfl (by decide +kernel) ⟨by first | exact Nat.le_of_ble_eq_true rfl | (simp only [headSpec]; omega), by first | exact Nat.le_of_ble_eq_true rfl | (simp only [headSpec]; omega)⟩ hK hP hD hS hA [1, 2, 3, 4, 5, 6, 7, 8] (by decide) rfl rfl (ci := 4) rfl rfl rfl rfl rfl hl.1 (Nat.le_of_ble_eq_true rfl) dX8_read_8 ⟨Nat.zero_le _, Nat.zero_le _⟩ [(h_t, .inr (7, [.ref h_t_desk, .ref h_t_imageDesk, .ref h_t_deeds, .ref h_t_numbers, .ref h_t_tape, .ref h_t_reader, .ref h_t_speller, .ref h_t_holders, .int t_imageKept])), (h_t_reader, .inr (4, [.ref h_t_reader_tape, .ref h_t_reader_told, .ref h_t_reader_causes, .int (x1.2.2.2.2.1), .int (x1.2.2.2.2.2.1), .int (x1.2.2.2.2.2.2.1)])), (h_t_desk, .inr (1, [.int (x1.2.2.2.2.2.2.2.1), .int (x1.2.2.2.2.2.2.2.2.1), .ref h_t_desk_powers, .int (x1.2.2.2.2.2.2.2.2.2.1), .long (x1.2.2.2.2.2.2.2.2.2.2.1)])), (h_t_reader_told, .inr (1, [.int (x1.2.2.2.2.2.2.2.2.2.2.2.1), .int (x1.2.2.2.2.2.2.2.2.2.2.2.2.1), .ref h_t_reader_told_powers, .int (x1.2.2.2.2.2.2.2.2.2.2.2.2.2.1), .long (x1.2.2.2.2.2.2.2.2.2.2.2.2.2.2)])), (h_t_reader_told_powers, .inl (cI, 8, .inl (x1.2.1))), (h_t_desk_powers, .inl (cI, 8, .inl (x1.2.2.1))), (h_t_reader_tape, .inr (6, [.ref h_t_reader_tape_bytes, .int t_reader_tape_size])), (h_t_reader_tape_bytes, .inl (cI, 60, .inl a_t_reader_tape_bytes)), (h_t_reader_causes, .inl (cI, 6, .inl (x1.2.2.2.1))), (h_t_tape, .inr (6, [.ref h_t_tape_bytes, .int t_tape_size])), (h_t_deeds, .inr (0, [.ref h_t_deeds_desks, .int t_deeds_now, .int t_deeds_last])), (h_t_deeds_desks, .inl (cD, 9, .inr (.inr (.inr (.inr (fun i => some (d_t_deeds_desks i))))))), ((d_t_deeds_desks 0), .inr (1, [.int (t_deeds_desks_genus 0), .int (t_deeds_desks_size 0), .ref (q_t_deeds_desks 0), .int (t_deeds_desks_limit 0), .long (t_deeds_desks_tree 0)])), ((q_t_deeds_desks 0), .inl (cI, 8, .inl (a_t_deeds_desks 0))), ((d_t_deeds_desks 1), .inr (1, [.int (t_deeds_desks_genus 1), .int (t_deeds_desks_size 1), .ref (q_t_deeds_desks 1), .int (t_deeds_desks_limit 1), .long (t_deeds_desks_tree 1)])), ((q_t_deeds_desks 1), .inl (cI, 8, .inl (a_t_deeds_desks 1))), ((d_t_deeds_desks 2), .inr (1, [.int (t_deeds_desks_genus 2), .int (t_deeds_desks_size 2), .ref (q_t_deeds_desks 2), .int (t_deeds_desks_limit 2), .long (t_deeds_desks_tree 2)])), ((q_t_deeds_desks 2), .inl (cI, 8, .inl (a_t_deeds_desks 2))), ((d_t_deeds_desks 3), .inr (1, [.int (t_deeds_desks_genus 3), .int (t_deeds_desks_size 3), .ref (q_t_deeds_desks 3), .int (t_deeds_desks_limit 3), .long (t_deeds_desks_tree 3)])), ((q_t_deeds_desks 3), .inl (cI, 8, .inl (a_t_deeds_desks 3))), ((d_t_deeds_desks 4), .inr (1, [.int (t_deeds_desks_genus 4), .int (t_deeds_desks_size 4), .ref (q_t_deeds_desks 4), .int (t_deeds_desks_limit 4), .long (t_deeds_desks_tree 4)])), ((q_t_deeds_desks 4), .inl (cI, 8, .inl (a_t_deeds_desks 4))), ((d_t_deeds_desks 5), .inr (1, [.int (t_deeds_desks_genus 5), .int (t_deeds_desks_size 5), .ref (q_t_deeds_desks 5), .int (t_deeds_desks_limit 5), .long (t_deeds_desks_tree 5)])), ((q_t_deeds_desks 5), .inl (cI, 8, .inl (a_t_deeds_desks 5))), ((d_t_deeds_desks 6), .inr (1, [.int (t_deeds_desks_genus 6), .int (t_deeds_desks_size 6), .ref (q_t_deeds_desks 6), .int (t_deeds_desks_limit 6), .long (t_deeds_desks_tree 6)])), ((q_t_deeds_desks 6), .inl (cI, 8, .inl (a_t_deeds_desks 6))), ((d_t_deeds_desks 7), .inr (1, [.int (t_deeds_desks_genus 7), .int (t_deeds_desks_size 7), .ref (q_t_deeds_desks 7), .int (t_deeds_desks_limit 7), .long (t_deeds_desks_tree 7)])), ((q_t_deeds_desks 7), .inl (cI, 8, .inl (a_t_deeds_desks 7))), ((d_t_deeds_desks 8), .inr (1, [.int (t_deeds_desks_genus 8), .int (t_deeds_desks_size 8), .ref (q_t_deeds_desks 8), .int (t_deeds_desks_limit 8), .long (t_deeds_desks_tree 8)])), ((q_t_deeds_desks 8), .inl (cI, 8, .inl (a_t_deeds_desks 8)))] [0, 9, 10, 11, 12, 13, 14, 15, 16, 17, 18, 19, 20, 21, 22, 23, 24, 25, 26, 27, 28, 29] 30 rfl rfl rfl (by decide +kernel) rfl (fun hp1 H locs hP hD hS => ?_)
  refine lv_istore_n (lv' := [(1, .int (x1.1)), (0, .ref h_t)]) hx hb dX8_read_11 rfl hl (by decide) rfl (fun ls hl => ?_)
  refine lv_aload_n hx hb dX8_read_12 rfl (lv_at hl 1 rfl) ?_
  refine va_get (D := G) (ci := 7) (v := .ref h_t_tape) (C := RX8) (T := TX8) (N := 9) hx hb hts hinX8 hown hK hP 0 rfl rfl 4 (by decide) (hta _ mw_366) (fun _ h9 => h9) rfl dX8_read_13 ?_
  refine lv_iconst (v := (0 : Int32)) hx hb dX8_read_16 (by decide) ?_
  refine va_put (D := G) (ci := 6) (v := .int (0 : Int32)) (ty := .int) (C := RX7) (T := TX7) (N := 2) hx hb hts hinX7 tyX7 tyX7_ok nmX7 hown hK hP hD hS 9 rfl rfl 1 (by decide) (hta _ mw_532) (fun _ h9 => h9) rfl (by decide +kernel) rfl rfl (Nat.le_of_ble_eq_true rfl) dX8_read_17 (fun H locs hP hD hS => ?_)
  have hP : va_P G vwCl [(h_t, .inr (7, [.ref h_t_desk, .ref h_t_imageDesk, .ref h_t_deeds, .ref h_t_numbers, .ref h_t_tape, .ref h_t_reader, .ref h_t_speller, .ref h_t_holders, .int t_imageKept])), (h_t_reader, .inr (4, [.ref h_t_reader_tape, .ref h_t_reader_told, .ref h_t_reader_causes, .int (x1.2.2.2.2.1), .int (x1.2.2.2.2.2.1), .int (x1.2.2.2.2.2.2.1)])), (h_t_desk, .inr (1, [.int (x1.2.2.2.2.2.2.2.1), .int (x1.2.2.2.2.2.2.2.2.1), .ref h_t_desk_powers, .int (x1.2.2.2.2.2.2.2.2.2.1), .long (x1.2.2.2.2.2.2.2.2.2.2.1)])), (h_t_reader_told, .inr (1, [.int (x1.2.2.2.2.2.2.2.2.2.2.2.1), .int (x1.2.2.2.2.2.2.2.2.2.2.2.2.1), .ref h_t_reader_told_powers, .int (x1.2.2.2.2.2.2.2.2.2.2.2.2.2.1), .long (x1.2.2.2.2.2.2.2.2.2.2.2.2.2.2)])), (h_t_reader_told_powers, .inl (cI, 8, .inl (x1.2.1))), (h_t_desk_powers, .inl (cI, 8, .inl (x1.2.2.1))), (h_t_reader_tape, .inr (6, [.ref h_t_reader_tape_bytes, .int t_reader_tape_size])), (h_t_reader_tape_bytes, .inl (cI, 60, .inl a_t_reader_tape_bytes)), (h_t_reader_causes, .inl (cI, 6, .inl (x1.2.2.2.1))), (h_t_tape, .inr (6, [.ref h_t_tape_bytes, .int (0 : Int32)])), (h_t_deeds, .inr (0, [.ref h_t_deeds_desks, .int t_deeds_now, .int t_deeds_last])), (h_t_deeds_desks, .inl (cD, 9, .inr (.inr (.inr (.inr (fun i => some (d_t_deeds_desks i))))))), ((d_t_deeds_desks 0), .inr (1, [.int (t_deeds_desks_genus 0), .int (t_deeds_desks_size 0), .ref (q_t_deeds_desks 0), .int (t_deeds_desks_limit 0), .long (t_deeds_desks_tree 0)])), ((q_t_deeds_desks 0), .inl (cI, 8, .inl (a_t_deeds_desks 0))), ((d_t_deeds_desks 1), .inr (1, [.int (t_deeds_desks_genus 1), .int (t_deeds_desks_size 1), .ref (q_t_deeds_desks 1), .int (t_deeds_desks_limit 1), .long (t_deeds_desks_tree 1)])), ((q_t_deeds_desks 1), .inl (cI, 8, .inl (a_t_deeds_desks 1))), ((d_t_deeds_desks 2), .inr (1, [.int (t_deeds_desks_genus 2), .int (t_deeds_desks_size 2), .ref (q_t_deeds_desks 2), .int (t_deeds_desks_limit 2), .long (t_deeds_desks_tree 2)])), ((q_t_deeds_desks 2), .inl (cI, 8, .inl (a_t_deeds_desks 2))), ((d_t_deeds_desks 3), .inr (1, [.int (t_deeds_desks_genus 3), .int (t_deeds_desks_size 3), .ref (q_t_deeds_desks 3), .int (t_deeds_desks_limit 3), .long (t_deeds_desks_tree 3)])), ((q_t_deeds_desks 3), .inl (cI, 8, .inl (a_t_deeds_desks 3))), ((d_t_deeds_desks 4), .inr (1, [.int (t_deeds_desks_genus 4), .int (t_deeds_desks_size 4), .ref (q_t_deeds_desks 4), .int (t_deeds_desks_limit 4), .long (t_deeds_desks_tree 4)])), ((q_t_deeds_desks 4), .inl (cI, 8, .inl (a_t_deeds_desks 4))), ((d_t_deeds_desks 5), .inr (1, [.int (t_deeds_desks_genus 5), .int (t_deeds_desks_size 5), .ref (q_t_deeds_desks 5), .int (t_deeds_desks_limit 5), .long (t_deeds_desks_tree 5)])), ((q_t_deeds_desks 5), .inl (cI, 8, .inl (a_t_deeds_desks 5))), ((d_t_deeds_desks 6), .inr (1, [.int (t_deeds_desks_genus 6), .int (t_deeds_desks_size 6), .ref (q_t_deeds_desks 6), .int (t_deeds_desks_limit 6), .long (t_deeds_desks_tree 6)])), ((q_t_deeds_desks 6), .inl (cI, 8, .inl (a_t_deeds_desks 6))), ((d_t_deeds_desks 7), .inr (1, [.int (t_deeds_desks_genus 7), .int (t_deeds_desks_size 7), .ref (q_t_deeds_desks 7), .int (t_deeds_desks_limit 7), .long (t_deeds_desks_tree 7)])), ((q_t_deeds_desks 7), .inl (cI, 8, .inl (a_t_deeds_desks 7))), ((d_t_deeds_desks 8), .inr (1, [.int (t_deeds_desks_genus 8), .int (t_deeds_desks_size 8), .ref (q_t_deeds_desks 8), .int (t_deeds_desks_limit 8), .long (t_deeds_desks_tree 8)])), ((q_t_deeds_desks 8), .inl (cI, 8, .inl (a_t_deeds_desks 8)))] H := hP
  have hD : va_D A [(h_t, .inr (7, [.ref h_t_desk, .ref h_t_imageDesk, .ref h_t_deeds, .ref h_t_numbers, .ref h_t_tape, .ref h_t_reader, .ref h_t_speller, .ref h_t_holders, .int t_imageKept])), (h_t_reader, .inr (4, [.ref h_t_reader_tape, .ref h_t_reader_told, .ref h_t_reader_causes, .int (x1.2.2.2.2.1), .int (x1.2.2.2.2.2.1), .int (x1.2.2.2.2.2.2.1)])), (h_t_desk, .inr (1, [.int (x1.2.2.2.2.2.2.2.1), .int (x1.2.2.2.2.2.2.2.2.1), .ref h_t_desk_powers, .int (x1.2.2.2.2.2.2.2.2.2.1), .long (x1.2.2.2.2.2.2.2.2.2.2.1)])), (h_t_reader_told, .inr (1, [.int (x1.2.2.2.2.2.2.2.2.2.2.2.1), .int (x1.2.2.2.2.2.2.2.2.2.2.2.2.1), .ref h_t_reader_told_powers, .int (x1.2.2.2.2.2.2.2.2.2.2.2.2.2.1), .long (x1.2.2.2.2.2.2.2.2.2.2.2.2.2.2)])), (h_t_reader_told_powers, .inl (cI, 8, .inl (x1.2.1))), (h_t_desk_powers, .inl (cI, 8, .inl (x1.2.2.1))), (h_t_reader_tape, .inr (6, [.ref h_t_reader_tape_bytes, .int t_reader_tape_size])), (h_t_reader_tape_bytes, .inl (cI, 60, .inl a_t_reader_tape_bytes)), (h_t_reader_causes, .inl (cI, 6, .inl (x1.2.2.2.1))), (h_t_tape, .inr (6, [.ref h_t_tape_bytes, .int (0 : Int32)])), (h_t_deeds, .inr (0, [.ref h_t_deeds_desks, .int t_deeds_now, .int t_deeds_last])), (h_t_deeds_desks, .inl (cD, 9, .inr (.inr (.inr (.inr (fun i => some (d_t_deeds_desks i))))))), ((d_t_deeds_desks 0), .inr (1, [.int (t_deeds_desks_genus 0), .int (t_deeds_desks_size 0), .ref (q_t_deeds_desks 0), .int (t_deeds_desks_limit 0), .long (t_deeds_desks_tree 0)])), ((q_t_deeds_desks 0), .inl (cI, 8, .inl (a_t_deeds_desks 0))), ((d_t_deeds_desks 1), .inr (1, [.int (t_deeds_desks_genus 1), .int (t_deeds_desks_size 1), .ref (q_t_deeds_desks 1), .int (t_deeds_desks_limit 1), .long (t_deeds_desks_tree 1)])), ((q_t_deeds_desks 1), .inl (cI, 8, .inl (a_t_deeds_desks 1))), ((d_t_deeds_desks 2), .inr (1, [.int (t_deeds_desks_genus 2), .int (t_deeds_desks_size 2), .ref (q_t_deeds_desks 2), .int (t_deeds_desks_limit 2), .long (t_deeds_desks_tree 2)])), ((q_t_deeds_desks 2), .inl (cI, 8, .inl (a_t_deeds_desks 2))), ((d_t_deeds_desks 3), .inr (1, [.int (t_deeds_desks_genus 3), .int (t_deeds_desks_size 3), .ref (q_t_deeds_desks 3), .int (t_deeds_desks_limit 3), .long (t_deeds_desks_tree 3)])), ((q_t_deeds_desks 3), .inl (cI, 8, .inl (a_t_deeds_desks 3))), ((d_t_deeds_desks 4), .inr (1, [.int (t_deeds_desks_genus 4), .int (t_deeds_desks_size 4), .ref (q_t_deeds_desks 4), .int (t_deeds_desks_limit 4), .long (t_deeds_desks_tree 4)])), ((q_t_deeds_desks 4), .inl (cI, 8, .inl (a_t_deeds_desks 4))), ((d_t_deeds_desks 5), .inr (1, [.int (t_deeds_desks_genus 5), .int (t_deeds_desks_size 5), .ref (q_t_deeds_desks 5), .int (t_deeds_desks_limit 5), .long (t_deeds_desks_tree 5)])), ((q_t_deeds_desks 5), .inl (cI, 8, .inl (a_t_deeds_desks 5))), ((d_t_deeds_desks 6), .inr (1, [.int (t_deeds_desks_genus 6), .int (t_deeds_desks_size 6), .ref (q_t_deeds_desks 6), .int (t_deeds_desks_limit 6), .long (t_deeds_desks_tree 6)])), ((q_t_deeds_desks 6), .inl (cI, 8, .inl (a_t_deeds_desks 6))), ((d_t_deeds_desks 7), .inr (1, [.int (t_deeds_desks_genus 7), .int (t_deeds_desks_size 7), .ref (q_t_deeds_desks 7), .int (t_deeds_desks_limit 7), .long (t_deeds_desks_tree 7)])), ((q_t_deeds_desks 7), .inl (cI, 8, .inl (a_t_deeds_desks 7))), ((d_t_deeds_desks 8), .inr (1, [.int (t_deeds_desks_genus 8), .int (t_deeds_desks_size 8), .ref (q_t_deeds_desks 8), .int (t_deeds_desks_limit 8), .long (t_deeds_desks_tree 8)])), ((q_t_deeds_desks 8), .inl (cI, 8, .inl (a_t_deeds_desks 8)))] := hD
  refine lv_aload_n hx hb dX8_read_20 rfl (lv_at hl 1 rfl) ?_
  refine va_get (D := G) (ci := 7) (v := .ref h_t_deeds) (C := RX8) (T := TX8) (N := 9) hx hb hts hinX8 hown hK hP 0 rfl rfl 2 (by decide) (hta _ mw_358) (fun _ h9 => h9) rfl dX8_read_21 ?_
  refine lv_aload_n hx hb dX8_read_24 rfl (lv_at hl 1 rfl) ?_
  refine va_get (D := G) (ci := 7) (v := .ref h_t_desk) (C := RX8) (T := TX8) (N := 9) hx hb hts hinX8 hown hK hP 0 rfl rfl 0 (by decide) (hta _ mw_354) (fun _ h9 => h9) rfl dX8_read_25 ?_
  obtain ⟨x2, hx2, h⟩ := bd_e h
  try dsimp only at h
  refine k_VvP (n := 1) (As := [.ref h_t_desk]) (rest := []) hx hb hml hown hts (c_X0_settle l G cI cJ cD cH H.size h_t_deeds h_t_desk h_t_deeds_desks h_t_desk_powers d_t_deeds_desks q_t_deeds_desks a_t_deeds_desks t_deeds_desks_genus t_deeds_desks_size t_deeds_desks_limit t_deeds_desks_tree t_deeds_now t_deeds_last (x1.2.2.2.2.2.2.2.1) (x1.2.2.2.2.2.2.2.2.1) (x1.2.2.2.2.2.2.2.2.2.1) (x1.2.2.2.2.2.2.2.2.2.2.1) (x1.2.2.1) (x2.1) (x2.2.1) (x2.2.2.1) (x2.2.2.2.1) (x2.2.2.2.2.1) (x2.2.2.2.2.2.1) (x2.2.2.2.2.2.2.1) (x2.2.2.2.2.2.2.2.1) (x2.2.2.2.2.2.2.2.2) hx2) gX8_read_X0_settle rfl rfl rfl (by decide +kernel) ⟨by first | exact Nat.le_of_ble_eq_true rfl | (simp only [headSpec]; omega), by first | exact Nat.le_of_ble_eq_true rfl | (simp only [headSpec]; omega)⟩ hK hP hD hS hA [10, 2, 11, 12, 13, 14, 15, 16, 17, 18, 19, 20, 21, 22, 23, 24, 25, 26, 27, 28, 29, 5] (by decide) rfl rfl (ci := 0) rfl rfl rfl rfl rfl hl.1 (Nat.le_of_ble_eq_true rfl) dX8_read_28 ⟨Nat.zero_le _, Nat.zero_le _⟩ [(h_t, .inr (7, [.ref h_t_desk, .ref h_t_imageDesk, .ref h_t_deeds, .ref h_t_numbers, .ref h_t_tape, .ref h_t_reader, .ref h_t_speller, .ref h_t_holders, .int t_imageKept])), (h_t_reader, .inr (4, [.ref h_t_reader_tape, .ref h_t_reader_told, .ref h_t_reader_causes, .int (x1.2.2.2.2.1), .int (x1.2.2.2.2.2.1), .int (x1.2.2.2.2.2.2.1)])), (h_t_desk, .inr (1, [.int (x1.2.2.2.2.2.2.2.1), .int (x1.2.2.2.2.2.2.2.2.1), .ref h_t_desk_powers, .int (x1.2.2.2.2.2.2.2.2.2.1), .long (x1.2.2.2.2.2.2.2.2.2.2.1)])), (h_t_reader_told, .inr (1, [.int (x1.2.2.2.2.2.2.2.2.2.2.2.1), .int (x1.2.2.2.2.2.2.2.2.2.2.2.2.1), .ref h_t_reader_told_powers, .int (x1.2.2.2.2.2.2.2.2.2.2.2.2.2.1), .long (x1.2.2.2.2.2.2.2.2.2.2.2.2.2.2)])), (h_t_reader_told_powers, .inl (cI, 8, .inl (x1.2.1))), (h_t_desk_powers, .inl (cI, 8, .inl (x1.2.2.1))), (h_t_reader_tape, .inr (6, [.ref h_t_reader_tape_bytes, .int t_reader_tape_size])), (h_t_reader_tape_bytes, .inl (cI, 60, .inl a_t_reader_tape_bytes)), (h_t_reader_causes, .inl (cI, 6, .inl (x1.2.2.2.1))), (h_t_tape, .inr (6, [.ref h_t_tape_bytes, .int (0 : Int32)])), (h_t_deeds, .inr (0, [.ref h_t_deeds_desks, .int (x2.1), .int (x2.2.1)])), (h_t_deeds_desks, .inl (cD, 9, .inr (.inr (.inr (.inr (fun i => some ((x2.2.2.2.1) i))))))), (((x2.2.2.2.1) 0), .inr (1, [.int ((x2.2.2.2.2.1) 0), .int ((x2.2.2.2.2.2.2.2.1) 0), .ref ((x2.2.2.2.2.2.2.1) 0), .int ((x2.2.2.2.2.2.1) 0), .long ((x2.2.2.2.2.2.2.2.2) 0)])), (((x2.2.2.2.2.2.2.1) 0), .inl (cI, 8, .inl ((x2.2.2.1) 0))), (((x2.2.2.2.1) 1), .inr (1, [.int ((x2.2.2.2.2.1) 1), .int ((x2.2.2.2.2.2.2.2.1) 1), .ref ((x2.2.2.2.2.2.2.1) 1), .int ((x2.2.2.2.2.2.1) 1), .long ((x2.2.2.2.2.2.2.2.2) 1)])), (((x2.2.2.2.2.2.2.1) 1), .inl (cI, 8, .inl ((x2.2.2.1) 1))), (((x2.2.2.2.1) 2), .inr (1, [.int ((x2.2.2.2.2.1) 2), .int ((x2.2.2.2.2.2.2.2.1) 2), .ref ((x2.2.2.2.2.2.2.1) 2), .int ((x2.2.2.2.2.2.1) 2), .long ((x2.2.2.2.2.2.2.2.2) 2)])), (((x2.2.2.2.2.2.2.1) 2), .inl (cI, 8, .inl ((x2.2.2.1) 2))), (((x2.2.2.2.1) 3), .inr (1, [.int ((x2.2.2.2.2.1) 3), .int ((x2.2.2.2.2.2.2.2.1) 3), .ref ((x2.2.2.2.2.2.2.1) 3), .int ((x2.2.2.2.2.2.1) 3), .long ((x2.2.2.2.2.2.2.2.2) 3)])), (((x2.2.2.2.2.2.2.1) 3), .inl (cI, 8, .inl ((x2.2.2.1) 3))), (((x2.2.2.2.1) 4), .inr (1, [.int ((x2.2.2.2.2.1) 4), .int ((x2.2.2.2.2.2.2.2.1) 4), .ref ((x2.2.2.2.2.2.2.1) 4), .int ((x2.2.2.2.2.2.1) 4), .long ((x2.2.2.2.2.2.2.2.2) 4)])), (((x2.2.2.2.2.2.2.1) 4), .inl (cI, 8, .inl ((x2.2.2.1) 4))), (((x2.2.2.2.1) 5), .inr (1, [.int ((x2.2.2.2.2.1) 5), .int ((x2.2.2.2.2.2.2.2.1) 5), .ref ((x2.2.2.2.2.2.2.1) 5), .int ((x2.2.2.2.2.2.1) 5), .long ((x2.2.2.2.2.2.2.2.2) 5)])), (((x2.2.2.2.2.2.2.1) 5), .inl (cI, 8, .inl ((x2.2.2.1) 5))), (((x2.2.2.2.1) 6), .inr (1, [.int ((x2.2.2.2.2.1) 6), .int ((x2.2.2.2.2.2.2.2.1) 6), .ref ((x2.2.2.2.2.2.2.1) 6), .int ((x2.2.2.2.2.2.1) 6), .long ((x2.2.2.2.2.2.2.2.2) 6)])), (((x2.2.2.2.2.2.2.1) 6), .inl (cI, 8, .inl ((x2.2.2.1) 6))), (((x2.2.2.2.1) 7), .inr (1, [.int ((x2.2.2.2.2.1) 7), .int ((x2.2.2.2.2.2.2.2.1) 7), .ref ((x2.2.2.2.2.2.2.1) 7), .int ((x2.2.2.2.2.2.1) 7), .long ((x2.2.2.2.2.2.2.2.2) 7)])), (((x2.2.2.2.2.2.2.1) 7), .inl (cI, 8, .inl ((x2.2.2.1) 7))), (((x2.2.2.2.1) 8), .inr (1, [.int ((x2.2.2.2.2.1) 8), .int ((x2.2.2.2.2.2.2.2.1) 8), .ref ((x2.2.2.2.2.2.2.1) 8), .int ((x2.2.2.2.2.2.1) 8), .long ((x2.2.2.2.2.2.2.2.2) 8)])), (((x2.2.2.2.2.2.2.1) 8), .inl (cI, 8, .inl ((x2.2.2.1) 8)))] [0, 1, 3, 4, 6, 7, 8, 9] 30 rfl rfl rfl (by decide +kernel) (fun hp2 H locs hP hD hS => ?_)
  refine lv_iload_n hx hb dX8_read_31 rfl (lv_at hl 0 rfl) ?_
  have h9 := Option.some.inj h
  have e9 : (x1.1) = r0 := congrArg (fun z9 => z9.1) h9
  subst e9
  have e9 : (x1.2.1) = w0 := congrArg (fun z9 => z9.2.1) h9
  subst e9
  have e9 : (x1.2.2.1) = w1 := congrArg (fun z9 => z9.2.2.1) h9
  subst e9
  have e9 : (x1.2.2.2.1) = w2 := congrArg (fun z9 => z9.2.2.2.1) h9
  subst e9
  have e9 : (x1.2.2.2.2.1) = w3 := congrArg (fun z9 => z9.2.2.2.2.1) h9
  subst e9
  have e9 : (x1.2.2.2.2.2.1) = w4 := congrArg (fun z9 => z9.2.2.2.2.2.1) h9
  subst e9
  have e9 : (x1.2.2.2.2.2.2.1) = w5 := congrArg (fun z9 => z9.2.2.2.2.2.2.1) h9
  subst e9
  have e9 : (x2.1) = w6 := congrArg (fun z9 => z9.2.2.2.2.2.2.2.1) h9
  subst e9
  have e9 : (x2.2.1) = w7 := congrArg (fun z9 => z9.2.2.2.2.2.2.2.2.1) h9
  subst e9
  have e9 : (x1.2.2.2.2.2.2.2.1) = w8 := congrArg (fun z9 => z9.2.2.2.2.2.2.2.2.2.1) h9
  subst e9
  have e9 : (x1.2.2.2.2.2.2.2.2.1) = w9 := congrArg (fun z9 => z9.2.2.2.2.2.2.2.2.2.2.1) h9
  subst e9
  have e9 : (x1.2.2.2.2.2.2.2.2.2.1) = w10 := congrArg (fun z9 => z9.2.2.2.2.2.2.2.2.2.2.2.1) h9
  subst e9
  have e9 : (x1.2.2.2.2.2.2.2.2.2.2.1) = w11 := congrArg (fun z9 => z9.2.2.2.2.2.2.2.2.2.2.2.2.1) h9
  subst e9
  have e9 : (x1.2.2.2.2.2.2.2.2.2.2.2.1) = w12 := congrArg (fun z9 => z9.2.2.2.2.2.2.2.2.2.2.2.2.2.1) h9
  subst e9
  have e9 : (x1.2.2.2.2.2.2.2.2.2.2.2.2.1) = w13 := congrArg (fun z9 => z9.2.2.2.2.2.2.2.2.2.2.2.2.2.2.1) h9
  subst e9
  have e9 : (x1.2.2.2.2.2.2.2.2.2.2.2.2.2.1) = w14 := congrArg (fun z9 => z9.2.2.2.2.2.2.2.2.2.2.2.2.2.2.2.1) h9
  subst e9
  have e9 : (x1.2.2.2.2.2.2.2.2.2.2.2.2.2.2) = w15 := congrArg (fun z9 => z9.2.2.2.2.2.2.2.2.2.2.2.2.2.2.2.2.1) h9
  subst e9
  have e9 : (0 : Int32) = w16 := congrArg (fun z9 => z9.2.2.2.2.2.2.2.2.2.2.2.2.2.2.2.2.2.1) h9
  subst e9
  have e9 : (x2.2.2.1) = w17 := congrArg (fun z9 => z9.2.2.2.2.2.2.2.2.2.2.2.2.2.2.2.2.2.2.1) h9
  subst e9
  have e9 : (x2.2.2.2.1) = w18 := congrArg (fun z9 => z9.2.2.2.2.2.2.2.2.2.2.2.2.2.2.2.2.2.2.2.1) h9
  subst e9
  have e9 : (x2.2.2.2.2.1) = w19 := congrArg (fun z9 => z9.2.2.2.2.2.2.2.2.2.2.2.2.2.2.2.2.2.2.2.2.1) h9
  subst e9
  have e9 : (x2.2.2.2.2.2.1) = w20 := congrArg (fun z9 => z9.2.2.2.2.2.2.2.2.2.2.2.2.2.2.2.2.2.2.2.2.2.1) h9
  subst e9
  have e9 : (x2.2.2.2.2.2.2.1) = w21 := congrArg (fun z9 => z9.2.2.2.2.2.2.2.2.2.2.2.2.2.2.2.2.2.2.2.2.2.2.1) h9
  subst e9
  have e9 : (x2.2.2.2.2.2.2.2.1) = w22 := congrArg (fun z9 => z9.2.2.2.2.2.2.2.2.2.2.2.2.2.2.2.2.2.2.2.2.2.2.2.1) h9
  subst e9
  have e9 : (x2.2.2.2.2.2.2.2.2) = w23 := congrArg (fun z9 => z9.2.2.2.2.2.2.2.2.2.2.2.2.2.2.2.2.2.2.2.2.2.2.2.2) h9
  subst e9
  exact k_iretP hx hb hr hlocks hD hP hS rfl dX8_read_32

/-! X8_why -/
set_option maxHeartbeats 4000000 in
set_option maxRecDepth 100000 in
theorem c_X8_why (l : Launch) (G : va_G) (cI cJ cD cH : ClassId) (sz : Nat) (h_t : Nat) (h_t_reader : Nat) (h_t_reader_causes : Nat) (h_t_desk : Nat) (h_t_imageDesk : Nat) (h_t_deeds : Nat) (h_t_numbers : Nat) (h_t_tape : Nat) (h_t_speller : Nat) (h_t_holders : Nat) (h_t_reader_tape : Nat) (h_t_reader_told : Nat) (t_imageKept : Int32) (t_reader_refused : Int32) (t_reader_place : Int32) (t_reader_cannotBe : Int32) (a_t_reader_causes : Nat → Int32) (p0 : Int32) (p1 : Int32) (r0 : Int32) (hF : F_X8_why t_reader_refused a_t_reader_causes p0 p1 = some r0) : Met l yX8_why wsX8_why ({ frames := 1, cells := 0, slots := 0, locals := 23 }) (k_pre G (k_T cI cJ cD cH) [(h_t, .inr (7, [.ref h_t_desk, .ref h_t_imageDesk, .ref h_t_deeds, .ref h_t_numbers, .ref h_t_tape, .ref h_t_reader, .ref h_t_speller, .ref h_t_holders, .int t_imageKept])), (h_t_reader, .inr (4, [.ref h_t_reader_tape, .ref h_t_reader_told, .ref h_t_reader_causes, .int t_reader_refused, .int t_reader_place, .int t_reader_cannotBe])), (h_t_reader_causes, .inl (cI, 6, .inl a_t_reader_causes))] sz [.ref h_t, .int p0, .int p1]) (va_Qi (fun r (_ : Unit) => r = r0 ∧ True) (fun _ t => va_P G vwCl [(h_t, .inr (7, [.ref h_t_desk, .ref h_t_imageDesk, .ref h_t_deeds, .ref h_t_numbers, .ref h_t_tape, .ref h_t_reader, .ref h_t_speller, .ref h_t_holders, .int t_imageKept])), (h_t_reader, .inr (4, [.ref h_t_reader_tape, .ref h_t_reader_told, .ref h_t_reader_causes, .int t_reader_refused, .int t_reader_place, .int t_reader_cannotBe])), (h_t_reader_causes, .inl (cI, 6, .inl a_t_reader_causes))] t.heap) (va_A [(h_t, .inr (7, [.ref h_t_desk, .ref h_t_imageDesk, .ref h_t_deeds, .ref h_t_numbers, .ref h_t_tape, .ref h_t_reader, .ref h_t_speller, .ref h_t_holders, .int t_imageKept])), (h_t_reader, .inr (4, [.ref h_t_reader_tape, .ref h_t_reader_told, .ref h_t_reader_causes, .int t_reader_refused, .int t_reader_place, .int t_reader_cannotBe])), (h_t_reader_causes, .inl (cI, 6, .inl a_t_reader_causes))] sz)) 0 0 (va_A [(h_t, .inr (7, [.ref h_t_desk, .ref h_t_imageDesk, .ref h_t_deeds, .ref h_t_numbers, .ref h_t_tape, .ref h_t_reader, .ref h_t_speller, .ref h_t_holders, .int t_imageKept])), (h_t_reader, .inr (4, [.ref h_t_reader_tape, .ref h_t_reader_told, .ref h_t_reader_causes, .int t_reader_refused, .int t_reader_place, .int t_reader_cannotBe])), (h_t_reader_causes, .inl (cI, 6, .inl a_t_reader_causes))] sz) := by
  refine Met.ofW (cc := cX8_why) (maxL := 3) (ret := (some .int)) (by decide) rfl ?_
  intro p e s m args below meth c s₁ B hml hv
  obtain ⟨rfl, hsz, hP, hK, hD0⟩ := hv
  have hx := B.exec
  have hb := B.bytes
  have hr := B.returns
  have hts := atoms_spec (ws := wsX8_why) B.pre
  have hta : ∀ w ∈ wA, w.before ([.ref h_t, .int p0, .int p1] : List Value).toArray s = true := hta_of hts
  have hown : s.vm.findClass RX8 = some m.cls := findClass_of_methodNamed B.named
  have hlocks := B.notSynchronized
  subst hsz
  have hD := hD0.self (sz := s.heap.size)
  generalize hAe : va_A [(h_t, .inr (7, [.ref h_t_desk, .ref h_t_imageDesk, .ref h_t_deeds, .ref h_t_numbers, .ref h_t_tape, .ref h_t_reader, .ref h_t_speller, .ref h_t_holders, .int t_imageKept])), (h_t_reader, .inr (4, [.ref h_t_reader_tape, .ref h_t_reader_told, .ref h_t_reader_causes, .int t_reader_refused, .int t_reader_place, .int t_reader_cannotBe])), (h_t_reader_causes, .inl (cI, 6, .inl a_t_reader_causes))] s.heap.size = A at hD ⊢
  have hA : ∀ q : Nat, s.heap.size ≤ q → A q := fun q h => by rw [← hAe]; exact Or.inr h
  have hS : va_S A s.heap s.heap [] := va_S.rf
  have hl := lv_entry ([.ref h_t, .int p0, .int p1]) (n := 3) (Nat.le_of_ble_eq_true rfl)
  rw [lg_entry_eq]
  generalize (lg_sl ([.ref h_t, .int p0, .int p1]) ++ List.replicate (3 - (lg_sl ([.ref h_t, .int p0, .int p1])).length) Slot.unset).toArray = ls at hl ⊢
  have hl : lv_has ls 3 [(0, .ref h_t), (1, .int p0), (2, .int p1)] := hl
  have hinX4 : ∀ w ∈ wsX40, w ∈ wsX8_why := hin_of in_X4
  have hinX8 : ∀ w ∈ wsX80, w ∈ wsX8_why := hin_of in_X8
  have h := hF
  unfold F_X8_why at h
  refine lv_iload_n hx hb dX8_why_0 rfl (lv_at hl 1 rfl) ?_
  refine lv_if_lt (tgt := 18) hx hb dX8_why_1 (by decide) (fun c1 => ?_) (fun c1 => ?_)
  · have h := it_p h c1
    refine lv_iconst (v := (-1 : Int32)) hx hb dX8_why_18 (by decide) ?_
    have h9 := Option.some.inj h
    have e9 : (-1 : Int32) = r0 := congrArg (fun z9 => z9) h9
    subst e9
    exact k_iret hx hb hr hlocks hP hS rfl dX8_why_19
  have h := it_n h c1
  refine lv_iload_n hx hb dX8_why_4 rfl (lv_at hl 1 rfl) ?_
  refine lv_iconst (v := (2 : Int32)) hx hb dX8_why_5 (by decide) ?_
  refine lv_icmp_gt (tgt := 18) hx hb dX8_why_6 (by decide) (fun c2 => ?_) (fun c2 => ?_)
  · have h := it_p h c2
    refine lv_iconst (v := (-1 : Int32)) hx hb dX8_why_18 (by decide) ?_
    have h9 := Option.some.inj h
    have e9 : (-1 : Int32) = r0 := congrArg (fun z9 => z9) h9
    subst e9
    exact k_iret hx hb hr hlocks hP hS rfl dX8_why_19
  have h := it_n h c2
  refine lv_iload_n hx hb dX8_why_9 rfl (lv_at hl 2 rfl) ?_
  refine lv_if_lt (tgt := 18) hx hb dX8_why_10 (by decide) (fun c3 => ?_) (fun c3 => ?_)
  · have h := it_p h c3
    refine lv_iconst (v := (-1 : Int32)) hx hb dX8_why_18 (by decide) ?_
    have h9 := Option.some.inj h
    have e9 : (-1 : Int32) = r0 := congrArg (fun z9 => z9) h9
    subst e9
    exact k_iret hx hb hr hlocks hP hS rfl dX8_why_19
  have h := it_n h c3
  refine lv_iload_n hx hb dX8_why_13 rfl (lv_at hl 2 rfl) ?_
  refine lv_iconst (v := (1 : Int32)) hx hb dX8_why_14 (by decide) ?_
  refine lv_icmp_le (tgt := 20) hx hb dX8_why_15 (by decide) (fun c4 => ?_) (fun c4 => ?_)
  rotate_left
  · have h := it_n h c4
    refine lv_iconst (v := (-1 : Int32)) hx hb dX8_why_18 (by decide) ?_
    have h9 := Option.some.inj h
    have e9 : (-1 : Int32) = r0 := congrArg (fun z9 => z9) h9
    subst e9
    exact k_iret hx hb hr hlocks hP hS rfl dX8_why_19
  have h := it_p h c4
  refine lv_aload_n hx hb dX8_why_20 rfl (lv_at hl 0 rfl) ?_
  refine va_get (D := G) (ci := 7) (v := .ref h_t_reader) (C := RX8) (T := TX8) (N := 9) hx hb hts hinX8 hown hK hP 0 rfl rfl 5 (by decide) (hta _ mw_364) (fun _ h9 => h9) rfl dX8_why_21 ?_
  refine va_get (D := G) (ci := 4) (v := .int t_reader_refused) (C := RX4) (T := TX4) (N := 6) hx hb hts hinX4 hown hK hP 1 rfl rfl 3 (by decide) (hta _ mw_542) (fun _ h9 => h9) rfl dX8_why_24 ?_
  refine lv_if_eq (tgt := 42) hx hb dX8_why_27 (by decide) (fun c5 => ?_) (fun c5 => ?_)
  · have h := it_p h c5
    refine lv_bipush (v := (-2 : Int32)) hx hb dX8_why_42 (by decide) ?_
    have h9 := Option.some.inj h
    have e9 : (-2 : Int32) = r0 := congrArg (fun z9 => z9) h9
    subst e9
    exact k_iret hx hb hr hlocks hP hS rfl dX8_why_44
  have h := it_n h c5
  refine lv_aload_n hx hb dX8_why_30 rfl (lv_at hl 0 rfl) ?_
  refine va_get (D := G) (ci := 7) (v := .ref h_t_reader) (C := RX8) (T := TX8) (N := 9) hx hb hts hinX8 hown hK hP 0 rfl rfl 5 (by decide) (hta _ mw_364) (fun _ h9 => h9) rfl dX8_why_31 ?_
  refine lv_iload_n hx hb dX8_why_34 rfl (lv_at hl 1 rfl) ?_
  refine lv_iload_n hx hb dX8_why_35 rfl (lv_at hl 2 rfl) ?_
  obtain ⟨x6, hx6, h⟩ := bd_e h
  try dsimp only at h
  refine k_ViU (n := 2) (As := [.int p0, .int p1]) (rest := []) hx hb hml hown hts (c_X4_causeAt l G cI cJ cD cH s.heap.size h_t_reader h_t_reader_causes h_t_reader_tape h_t_reader_told t_reader_refused t_reader_place t_reader_cannotBe a_t_reader_causes p0 p1 x6 hx6) gX8_why_X4_causeAt rfl rfl rfl (by decide +kernel) ⟨by first | exact Nat.le_of_ble_eq_true rfl | (simp only [headSpec]; omega), by first | exact Nat.le_of_ble_eq_true rfl | (simp only [headSpec]; omega)⟩ hK hP hD hS hA [1, 2] (by decide) rfl (ci := 4) rfl rfl rfl rfl rfl hl.1 (Nat.le_of_ble_eq_true rfl) dX8_why_36 ⟨Nat.zero_le _, Nat.zero_le _⟩ (fun hp6 H locs hP hS => ?_)
  refine lv_goto (tgt := 44) hx hb dX8_why_39 (by decide) ?_
  have h9 := Option.some.inj h
  have e9 : x6 = r0 := congrArg (fun z9 => z9) h9
  subst e9
  exact k_iret hx hb hr hlocks hP hS rfl dX8_why_44

/-! X8_spell -/
set_option maxHeartbeats 4000000 in
set_option maxRecDepth 100000 in
theorem c_X8_spell (l : Launch) (G : va_G) (cI cJ cD cH : ClassId) (sz : Nat) (h_t : Nat) (h_t_speller : Nat) (h_t_desk : Nat) (h_t_speller_bytes : Nat) (h_t_desk_powers : Nat) (h_t_imageDesk : Nat) (h_t_deeds : Nat) (h_t_numbers : Nat) (h_t_tape : Nat) (h_t_reader : Nat) (h_t_holders : Nat) (t_imageKept : Int32) (t_speller_size : Int32) (t_desk_genus : Int32) (t_desk_size : Int32) (t_desk_limit : Int32) (t_desk_tree : Int64) (a_t_speller_bytes : Nat → Int32) (a_t_desk_powers : Nat → Int32) (p0 : Int32) (r0 : Int32) (w0 : Nat → Int32) (w1 : Int32) (hF : F_X8_spell t_speller_size t_desk_genus t_desk_size t_desk_limit t_desk_tree a_t_speller_bytes a_t_desk_powers p0 = some (r0, w0, w1)) : Met l yX8_spell wsX8_spell ({ frames := 4, cells := 0, slots := 0, locals := 87 }) (k_pre G (k_T cI cJ cD cH) [(h_t, .inr (7, [.ref h_t_desk, .ref h_t_imageDesk, .ref h_t_deeds, .ref h_t_numbers, .ref h_t_tape, .ref h_t_reader, .ref h_t_speller, .ref h_t_holders, .int t_imageKept])), (h_t_speller, .inr (5, [.ref h_t_speller_bytes, .int t_speller_size])), (h_t_desk, .inr (1, [.int t_desk_genus, .int t_desk_size, .ref h_t_desk_powers, .int t_desk_limit, .long t_desk_tree])), (h_t_speller_bytes, .inl (cI, 48, .inl a_t_speller_bytes)), (h_t_desk_powers, .inl (cI, 8, .inl a_t_desk_powers))] sz [.ref h_t, .int p0]) (va_Qi (fun r (_ : Unit) => r = r0 ∧ True) (fun _ t => va_P G vwCl [(h_t, .inr (7, [.ref h_t_desk, .ref h_t_imageDesk, .ref h_t_deeds, .ref h_t_numbers, .ref h_t_tape, .ref h_t_reader, .ref h_t_speller, .ref h_t_holders, .int t_imageKept])), (h_t_speller, .inr (5, [.ref h_t_speller_bytes, .int w1])), (h_t_desk, .inr (1, [.int t_desk_genus, .int t_desk_size, .ref h_t_desk_powers, .int t_desk_limit, .long t_desk_tree])), (h_t_speller_bytes, .inl (cI, 48, .inl w0)), (h_t_desk_powers, .inl (cI, 8, .inl a_t_desk_powers))] t.heap) (va_A [(h_t, .inr (7, [.ref h_t_desk, .ref h_t_imageDesk, .ref h_t_deeds, .ref h_t_numbers, .ref h_t_tape, .ref h_t_reader, .ref h_t_speller, .ref h_t_holders, .int t_imageKept])), (h_t_speller, .inr (5, [.ref h_t_speller_bytes, .int t_speller_size])), (h_t_desk, .inr (1, [.int t_desk_genus, .int t_desk_size, .ref h_t_desk_powers, .int t_desk_limit, .long t_desk_tree])), (h_t_speller_bytes, .inl (cI, 48, .inl a_t_speller_bytes)), (h_t_desk_powers, .inl (cI, 8, .inl a_t_desk_powers))] sz)) 0 0 (va_A [(h_t, .inr (7, [.ref h_t_desk, .ref h_t_imageDesk, .ref h_t_deeds, .ref h_t_numbers, .ref h_t_tape, .ref h_t_reader, .ref h_t_speller, .ref h_t_holders, .int t_imageKept])), (h_t_speller, .inr (5, [.ref h_t_speller_bytes, .int t_speller_size])), (h_t_desk, .inr (1, [.int t_desk_genus, .int t_desk_size, .ref h_t_desk_powers, .int t_desk_limit, .long t_desk_tree])), (h_t_speller_bytes, .inl (cI, 48, .inl a_t_speller_bytes)), (h_t_desk_powers, .inl (cI, 8, .inl a_t_desk_powers))] sz) := by
  refine Met.ofW (cc := cX8_spell) (maxL := 2) (ret := (some .int)) (by decide) rfl ?_
  intro p e s m args below meth c s₁ B hml hv
  obtain ⟨rfl, hsz, hP, hK, hD0⟩ := hv
  have hx := B.exec
  have hb := B.bytes
  have hr := B.returns
  have hts := atoms_spec (ws := wsX8_spell) B.pre
  have hta : ∀ w ∈ wA, w.before ([.ref h_t, .int p0] : List Value).toArray s = true := hta_of hts
  have hown : s.vm.findClass RX8 = some m.cls := findClass_of_methodNamed B.named
  have hlocks := B.notSynchronized
  subst hsz
  have hD := hD0.self (sz := s.heap.size)
  generalize hAe : va_A [(h_t, .inr (7, [.ref h_t_desk, .ref h_t_imageDesk, .ref h_t_deeds, .ref h_t_numbers, .ref h_t_tape, .ref h_t_reader, .ref h_t_speller, .ref h_t_holders, .int t_imageKept])), (h_t_speller, .inr (5, [.ref h_t_speller_bytes, .int t_speller_size])), (h_t_desk, .inr (1, [.int t_desk_genus, .int t_desk_size, .ref h_t_desk_powers, .int t_desk_limit, .long t_desk_tree])), (h_t_speller_bytes, .inl (cI, 48, .inl a_t_speller_bytes)), (h_t_desk_powers, .inl (cI, 8, .inl a_t_desk_powers))] s.heap.size = A at hD ⊢
  have hA : ∀ q : Nat, s.heap.size ≤ q → A q := fun q h => by rw [← hAe]; exact Or.inr h
  have hS : va_S A s.heap s.heap [] := va_S.rf
  have hl := lv_entry ([.ref h_t, .int p0]) (n := 2) (Nat.le_of_ble_eq_true rfl)
  rw [lg_entry_eq]
  generalize (lg_sl ([.ref h_t, .int p0]) ++ List.replicate (2 - (lg_sl ([.ref h_t, .int p0])).length) Slot.unset).toArray = ls at hl ⊢
  have hl : lv_has ls 2 [(0, .ref h_t), (1, .int p0)] := hl
  have hinX5 : ∀ w ∈ wsX50, w ∈ wsX8_spell := hin_of in_X5
  have hinX8 : ∀ w ∈ wsX80, w ∈ wsX8_spell := hin_of in_X8
  have h := hF
  unfold F_X8_spell at h
  refine lv_iload_n hx hb dX8_spell_0 rfl (lv_at hl 1 rfl) ?_
  refine lv_iconst (v := (-1 : Int32)) hx hb dX8_spell_1 (by decide) ?_
  refine lv_icmp_ge (tgt := 7) hx hb dX8_spell_2 (by decide) (fun c1 => ?_) (fun c1 => ?_)
  rotate_left
  · have h := it_n h c1
    refine lv_iconst (v := (-1 : Int32)) hx hb dX8_spell_5 (by decide) ?_
    have h9 := Option.some.inj h
    have e9 : (-1 : Int32) = r0 := congrArg (fun z9 => z9.1) h9
    subst e9
    have e9 : a_t_speller_bytes = w0 := congrArg (fun z9 => z9.2.1) h9
    subst e9
    have e9 : t_speller_size = w1 := congrArg (fun z9 => z9.2.2) h9
    subst e9
    exact k_iret hx hb hr hlocks hP hS rfl dX8_spell_6
  have h := it_p h c1
  refine lv_aload_n hx hb dX8_spell_7 rfl (lv_at hl 0 rfl) ?_
  refine va_get (D := G) (ci := 7) (v := .ref h_t_speller) (C := RX8) (T := TX8) (N := 9) hx hb hts hinX8 hown hK hP 0 rfl rfl 6 (by decide) (hta _ mw_369) (fun _ h9 => h9) rfl dX8_spell_8 ?_
  refine lv_aload_n hx hb dX8_spell_11 rfl (lv_at hl 0 rfl) ?_
  refine va_get (D := G) (ci := 7) (v := .ref h_t_desk) (C := RX8) (T := TX8) (N := 9) hx hb hts hinX8 hown hK hP 0 rfl rfl 0 (by decide) (hta _ mw_354) (fun _ h9 => h9) rfl dX8_spell_12 ?_
  obtain ⟨x2, hx2, h⟩ := bd_e h
  try dsimp only at h
  refine k_Vv (n := 1) (As := [.ref h_t_desk]) (rest := []) hx hb hml hown hts (c_X5_tell l G cI cJ cD cH s.heap.size h_t_speller h_t_desk h_t_speller_bytes h_t_desk_powers t_speller_size t_desk_genus t_desk_size t_desk_limit t_desk_tree a_t_speller_bytes a_t_desk_powers (x2.1) (x2.2) hx2) gX8_spell_X5_tell rfl rfl rfl (by decide +kernel) ⟨by first | exact Nat.le_of_ble_eq_true rfl | (simp only [headSpec]; omega), by first | exact Nat.le_of_ble_eq_true rfl | (simp only [headSpec]; omega)⟩ hK hP hD hS hA [1, 2, 3, 4] (by decide) rfl rfl (ci := 5) rfl rfl rfl rfl rfl hl.1 (Nat.le_of_ble_eq_true rfl) dX8_spell_15 ⟨Nat.zero_le _, Nat.zero_le _⟩ [(h_t, .inr (7, [.ref h_t_desk, .ref h_t_imageDesk, .ref h_t_deeds, .ref h_t_numbers, .ref h_t_tape, .ref h_t_reader, .ref h_t_speller, .ref h_t_holders, .int t_imageKept])), (h_t_speller, .inr (5, [.ref h_t_speller_bytes, .int (x2.2)])), (h_t_desk, .inr (1, [.int t_desk_genus, .int t_desk_size, .ref h_t_desk_powers, .int t_desk_limit, .long t_desk_tree])), (h_t_speller_bytes, .inl (cI, 48, .inl (x2.1))), (h_t_desk_powers, .inl (cI, 8, .inl a_t_desk_powers))] [0] 5 rfl rfl rfl (by decide +kernel) rfl (fun hp2 H locs hP hD hS => ?_)
  refine lv_iload_n hx hb dX8_spell_18 rfl (lv_at hl 1 rfl) ?_
  refine lv_iconst (v := (-1 : Int32)) hx hb dX8_spell_19 (by decide) ?_
  refine lv_icmp_ne (tgt := 33) hx hb dX8_spell_20 (by decide) (fun c3 => ?_) (fun c3 => ?_)
  rotate_left
  · have h := it_p h c3
    refine lv_aload_n hx hb dX8_spell_23 rfl (lv_at hl 0 rfl) ?_
    refine va_get (D := G) (ci := 7) (v := .ref h_t_speller) (C := RX8) (T := TX8) (N := 9) hx hb hts hinX8 hown hK hP 0 rfl rfl 6 (by decide) (hta _ mw_369) (fun _ h9 => h9) rfl dX8_spell_24 ?_
    refine va_get (D := G) (ci := 5) (v := .int (x2.2)) (C := RX5) (T := TX5) (N := 2) hx hb hts hinX5 hown hK hP 1 rfl rfl 1 (by decide) (hta _ mw_547) (fun _ h9 => h9) rfl dX8_spell_27 ?_
    refine lv_goto (tgt := 41) hx hb dX8_spell_30 (by decide) ?_
    have h9 := Option.some.inj h
    have e9 : (x2.2) = r0 := congrArg (fun z9 => z9.1) h9
    subst e9
    have e9 : (x2.1) = w0 := congrArg (fun z9 => z9.2.1) h9
    subst e9
    have e9 : (x2.2) = w1 := congrArg (fun z9 => z9.2.2) h9
    subst e9
    exact k_iret hx hb hr hlocks hP hS rfl dX8_spell_41
  have h := it_n h c3
  refine lv_aload_n hx hb dX8_spell_33 rfl (lv_at hl 0 rfl) ?_
  refine va_get (D := G) (ci := 7) (v := .ref h_t_speller) (C := RX8) (T := TX8) (N := 9) hx hb hts hinX8 hown hK hP 0 rfl rfl 6 (by decide) (hta _ mw_369) (fun _ h9 => h9) rfl dX8_spell_34 ?_
  refine lv_iload_n hx hb dX8_spell_37 rfl (lv_at hl 1 rfl) ?_
  obtain ⟨x4, hx4, h⟩ := bd_e h
  try dsimp only at h
  refine k_ViU (n := 1) (As := [.int p0]) (rest := []) hx hb hml hown hts (c_X5_byteAt l G cI cJ cD cH H.size h_t_speller h_t_speller_bytes (x2.2) (x2.1) p0 x4 hx4) gX8_spell_X5_byteAt rfl rfl rfl (by decide +kernel) ⟨by first | exact Nat.le_of_ble_eq_true rfl | (simp only [headSpec]; omega), by first | exact Nat.le_of_ble_eq_true rfl | (simp only [headSpec]; omega)⟩ hK hP hD hS hA [1, 3] (by decide) rfl (ci := 5) rfl rfl rfl rfl rfl hl.1 (Nat.le_of_ble_eq_true rfl) dX8_spell_38 ⟨Nat.zero_le _, Nat.zero_le _⟩ (fun hp4 H locs hP hS => ?_)
  have h9 := Option.some.inj h
  have e9 : x4 = r0 := congrArg (fun z9 => z9.1) h9
  subst e9
  have e9 : (x2.1) = w0 := congrArg (fun z9 => z9.2.1) h9
  subst e9
  have e9 : (x2.2) = w1 := congrArg (fun z9 => z9.2.2) h9
  subst e9
  exact k_iret hx hb hr hlocks hP hS rfl dX8_spell_41

/-! X8_holderAt -/
set_option maxHeartbeats 40000000 in
set_option maxRecDepth 100000 in
theorem c_X8_holderAt (l : Launch) (G : va_G) (cI cJ cD cH : ClassId) (sz : Nat) (h_t : Nat) (h_t_holders : Nat) (h_t_desk : Nat) (h_t_imageDesk : Nat) (h_t_deeds : Nat) (h_t_numbers : Nat) (h_t_tape : Nat) (h_t_reader : Nat) (h_t_speller : Nat) (d_t_holders : Nat → Nat) (q_t_holders : Nat → Nat) (a_t_holders : Nat → Nat → Int32) (t_holders_sort : Nat → Int32) (t_holders_tree : Nat → Int64) (t_holders_limit : Nat → Int32) (t_holders_above : Nat → Int64) (t_holders_size : Nat → Int32) (t_imageKept : Int32) (p0 : Int32) (r0 : Nat) (hF : F_X8_holderAt p0 = some r0) : Met l yX8_holderAt wsX8_holderAt ({ frames := 0, cells := 0, slots := 0, locals := 0 }) (k_pre G (k_T cI cJ cD cH) [(h_t, .inr (7, [.ref h_t_desk, .ref h_t_imageDesk, .ref h_t_deeds, .ref h_t_numbers, .ref h_t_tape, .ref h_t_reader, .ref h_t_speller, .ref h_t_holders, .int t_imageKept])), (h_t_holders, .inl (cH, 6, .inr (.inr (.inr (.inr (fun i => some (d_t_holders i))))))), ((d_t_holders 0), .inr (2, [.int (t_holders_sort 0), .long (t_holders_tree 0), .int (t_holders_limit 0), .ref (q_t_holders 0), .long (t_holders_above 0), .int (t_holders_size 0)])), ((q_t_holders 0), .inl (cI, 20, .inl (a_t_holders 0))), ((d_t_holders 1), .inr (2, [.int (t_holders_sort 1), .long (t_holders_tree 1), .int (t_holders_limit 1), .ref (q_t_holders 1), .long (t_holders_above 1), .int (t_holders_size 1)])), ((q_t_holders 1), .inl (cI, 20, .inl (a_t_holders 1))), ((d_t_holders 2), .inr (2, [.int (t_holders_sort 2), .long (t_holders_tree 2), .int (t_holders_limit 2), .ref (q_t_holders 2), .long (t_holders_above 2), .int (t_holders_size 2)])), ((q_t_holders 2), .inl (cI, 20, .inl (a_t_holders 2))), ((d_t_holders 3), .inr (2, [.int (t_holders_sort 3), .long (t_holders_tree 3), .int (t_holders_limit 3), .ref (q_t_holders 3), .long (t_holders_above 3), .int (t_holders_size 3)])), ((q_t_holders 3), .inl (cI, 20, .inl (a_t_holders 3))), ((d_t_holders 4), .inr (2, [.int (t_holders_sort 4), .long (t_holders_tree 4), .int (t_holders_limit 4), .ref (q_t_holders 4), .long (t_holders_above 4), .int (t_holders_size 4)])), ((q_t_holders 4), .inl (cI, 20, .inl (a_t_holders 4))), ((d_t_holders 5), .inr (2, [.int (t_holders_sort 5), .long (t_holders_tree 5), .int (t_holders_limit 5), .ref (q_t_holders 5), .long (t_holders_above 5), .int (t_holders_size 5)])), ((q_t_holders 5), .inl (cI, 20, .inl (a_t_holders 5)))] sz [.ref h_t, .int p0]) (va_Qq (fun r (_ : Unit) => r = (if r0 = 6 then none else (some (d_t_holders r0)))) (fun _ t => va_P G vwCl [(h_t, .inr (7, [.ref h_t_desk, .ref h_t_imageDesk, .ref h_t_deeds, .ref h_t_numbers, .ref h_t_tape, .ref h_t_reader, .ref h_t_speller, .ref h_t_holders, .int t_imageKept])), (h_t_holders, .inl (cH, 6, .inr (.inr (.inr (.inr (fun i => some (d_t_holders i))))))), ((d_t_holders 0), .inr (2, [.int (t_holders_sort 0), .long (t_holders_tree 0), .int (t_holders_limit 0), .ref (q_t_holders 0), .long (t_holders_above 0), .int (t_holders_size 0)])), ((q_t_holders 0), .inl (cI, 20, .inl (a_t_holders 0))), ((d_t_holders 1), .inr (2, [.int (t_holders_sort 1), .long (t_holders_tree 1), .int (t_holders_limit 1), .ref (q_t_holders 1), .long (t_holders_above 1), .int (t_holders_size 1)])), ((q_t_holders 1), .inl (cI, 20, .inl (a_t_holders 1))), ((d_t_holders 2), .inr (2, [.int (t_holders_sort 2), .long (t_holders_tree 2), .int (t_holders_limit 2), .ref (q_t_holders 2), .long (t_holders_above 2), .int (t_holders_size 2)])), ((q_t_holders 2), .inl (cI, 20, .inl (a_t_holders 2))), ((d_t_holders 3), .inr (2, [.int (t_holders_sort 3), .long (t_holders_tree 3), .int (t_holders_limit 3), .ref (q_t_holders 3), .long (t_holders_above 3), .int (t_holders_size 3)])), ((q_t_holders 3), .inl (cI, 20, .inl (a_t_holders 3))), ((d_t_holders 4), .inr (2, [.int (t_holders_sort 4), .long (t_holders_tree 4), .int (t_holders_limit 4), .ref (q_t_holders 4), .long (t_holders_above 4), .int (t_holders_size 4)])), ((q_t_holders 4), .inl (cI, 20, .inl (a_t_holders 4))), ((d_t_holders 5), .inr (2, [.int (t_holders_sort 5), .long (t_holders_tree 5), .int (t_holders_limit 5), .ref (q_t_holders 5), .long (t_holders_above 5), .int (t_holders_size 5)])), ((q_t_holders 5), .inl (cI, 20, .inl (a_t_holders 5)))] t.heap) (va_A [(h_t, .inr (7, [.ref h_t_desk, .ref h_t_imageDesk, .ref h_t_deeds, .ref h_t_numbers, .ref h_t_tape, .ref h_t_reader, .ref h_t_speller, .ref h_t_holders, .int t_imageKept])), (h_t_holders, .inl (cH, 6, .inr (.inr (.inr (.inr (fun i => some (d_t_holders i))))))), ((d_t_holders 0), .inr (2, [.int (t_holders_sort 0), .long (t_holders_tree 0), .int (t_holders_limit 0), .ref (q_t_holders 0), .long (t_holders_above 0), .int (t_holders_size 0)])), ((q_t_holders 0), .inl (cI, 20, .inl (a_t_holders 0))), ((d_t_holders 1), .inr (2, [.int (t_holders_sort 1), .long (t_holders_tree 1), .int (t_holders_limit 1), .ref (q_t_holders 1), .long (t_holders_above 1), .int (t_holders_size 1)])), ((q_t_holders 1), .inl (cI, 20, .inl (a_t_holders 1))), ((d_t_holders 2), .inr (2, [.int (t_holders_sort 2), .long (t_holders_tree 2), .int (t_holders_limit 2), .ref (q_t_holders 2), .long (t_holders_above 2), .int (t_holders_size 2)])), ((q_t_holders 2), .inl (cI, 20, .inl (a_t_holders 2))), ((d_t_holders 3), .inr (2, [.int (t_holders_sort 3), .long (t_holders_tree 3), .int (t_holders_limit 3), .ref (q_t_holders 3), .long (t_holders_above 3), .int (t_holders_size 3)])), ((q_t_holders 3), .inl (cI, 20, .inl (a_t_holders 3))), ((d_t_holders 4), .inr (2, [.int (t_holders_sort 4), .long (t_holders_tree 4), .int (t_holders_limit 4), .ref (q_t_holders 4), .long (t_holders_above 4), .int (t_holders_size 4)])), ((q_t_holders 4), .inl (cI, 20, .inl (a_t_holders 4))), ((d_t_holders 5), .inr (2, [.int (t_holders_sort 5), .long (t_holders_tree 5), .int (t_holders_limit 5), .ref (q_t_holders 5), .long (t_holders_above 5), .int (t_holders_size 5)])), ((q_t_holders 5), .inl (cI, 20, .inl (a_t_holders 5)))] sz)) 0 0 (va_A [(h_t, .inr (7, [.ref h_t_desk, .ref h_t_imageDesk, .ref h_t_deeds, .ref h_t_numbers, .ref h_t_tape, .ref h_t_reader, .ref h_t_speller, .ref h_t_holders, .int t_imageKept])), (h_t_holders, .inl (cH, 6, .inr (.inr (.inr (.inr (fun i => some (d_t_holders i))))))), ((d_t_holders 0), .inr (2, [.int (t_holders_sort 0), .long (t_holders_tree 0), .int (t_holders_limit 0), .ref (q_t_holders 0), .long (t_holders_above 0), .int (t_holders_size 0)])), ((q_t_holders 0), .inl (cI, 20, .inl (a_t_holders 0))), ((d_t_holders 1), .inr (2, [.int (t_holders_sort 1), .long (t_holders_tree 1), .int (t_holders_limit 1), .ref (q_t_holders 1), .long (t_holders_above 1), .int (t_holders_size 1)])), ((q_t_holders 1), .inl (cI, 20, .inl (a_t_holders 1))), ((d_t_holders 2), .inr (2, [.int (t_holders_sort 2), .long (t_holders_tree 2), .int (t_holders_limit 2), .ref (q_t_holders 2), .long (t_holders_above 2), .int (t_holders_size 2)])), ((q_t_holders 2), .inl (cI, 20, .inl (a_t_holders 2))), ((d_t_holders 3), .inr (2, [.int (t_holders_sort 3), .long (t_holders_tree 3), .int (t_holders_limit 3), .ref (q_t_holders 3), .long (t_holders_above 3), .int (t_holders_size 3)])), ((q_t_holders 3), .inl (cI, 20, .inl (a_t_holders 3))), ((d_t_holders 4), .inr (2, [.int (t_holders_sort 4), .long (t_holders_tree 4), .int (t_holders_limit 4), .ref (q_t_holders 4), .long (t_holders_above 4), .int (t_holders_size 4)])), ((q_t_holders 4), .inl (cI, 20, .inl (a_t_holders 4))), ((d_t_holders 5), .inr (2, [.int (t_holders_sort 5), .long (t_holders_tree 5), .int (t_holders_limit 5), .ref (q_t_holders 5), .long (t_holders_above 5), .int (t_holders_size 5)])), ((q_t_holders 5), .inl (cI, 20, .inl (a_t_holders 5)))] sz) := by
  refine Met.ofW (cc := cX8_holderAt) (maxL := 2) (ret := (some (.object "MarkedCurves$Holder"))) (by decide) rfl ?_
  intro p e s m args below meth c s₁ B hml hv
  obtain ⟨rfl, hsz, hP, hK, hD0⟩ := hv
  have hx := B.exec
  have hb := B.bytes
  have hr := B.returns
  have hts := atoms_spec (ws := wsX8_holderAt) B.pre
  have hta : ∀ w ∈ wA, w.before ([.ref h_t, .int p0] : List Value).toArray s = true := hta_of hts
  have hown : s.vm.findClass RX8 = some m.cls := findClass_of_methodNamed B.named
  have hlocks := B.notSynchronized
  subst hsz
  have hD := hD0.self (sz := s.heap.size)
  generalize hAe : va_A [(h_t, .inr (7, [.ref h_t_desk, .ref h_t_imageDesk, .ref h_t_deeds, .ref h_t_numbers, .ref h_t_tape, .ref h_t_reader, .ref h_t_speller, .ref h_t_holders, .int t_imageKept])), (h_t_holders, .inl (cH, 6, .inr (.inr (.inr (.inr (fun i => some (d_t_holders i))))))), ((d_t_holders 0), .inr (2, [.int (t_holders_sort 0), .long (t_holders_tree 0), .int (t_holders_limit 0), .ref (q_t_holders 0), .long (t_holders_above 0), .int (t_holders_size 0)])), ((q_t_holders 0), .inl (cI, 20, .inl (a_t_holders 0))), ((d_t_holders 1), .inr (2, [.int (t_holders_sort 1), .long (t_holders_tree 1), .int (t_holders_limit 1), .ref (q_t_holders 1), .long (t_holders_above 1), .int (t_holders_size 1)])), ((q_t_holders 1), .inl (cI, 20, .inl (a_t_holders 1))), ((d_t_holders 2), .inr (2, [.int (t_holders_sort 2), .long (t_holders_tree 2), .int (t_holders_limit 2), .ref (q_t_holders 2), .long (t_holders_above 2), .int (t_holders_size 2)])), ((q_t_holders 2), .inl (cI, 20, .inl (a_t_holders 2))), ((d_t_holders 3), .inr (2, [.int (t_holders_sort 3), .long (t_holders_tree 3), .int (t_holders_limit 3), .ref (q_t_holders 3), .long (t_holders_above 3), .int (t_holders_size 3)])), ((q_t_holders 3), .inl (cI, 20, .inl (a_t_holders 3))), ((d_t_holders 4), .inr (2, [.int (t_holders_sort 4), .long (t_holders_tree 4), .int (t_holders_limit 4), .ref (q_t_holders 4), .long (t_holders_above 4), .int (t_holders_size 4)])), ((q_t_holders 4), .inl (cI, 20, .inl (a_t_holders 4))), ((d_t_holders 5), .inr (2, [.int (t_holders_sort 5), .long (t_holders_tree 5), .int (t_holders_limit 5), .ref (q_t_holders 5), .long (t_holders_above 5), .int (t_holders_size 5)])), ((q_t_holders 5), .inl (cI, 20, .inl (a_t_holders 5)))] s.heap.size = A at hD ⊢
  have hA : ∀ q : Nat, s.heap.size ≤ q → A q := fun q h => by rw [← hAe]; exact Or.inr h
  have hS : va_S A s.heap s.heap [] := va_S.rf
  have hl := lv_entry ([.ref h_t, .int p0]) (n := 2) (Nat.le_of_ble_eq_true rfl)
  rw [lg_entry_eq]
  generalize (lg_sl ([.ref h_t, .int p0]) ++ List.replicate (2 - (lg_sl ([.ref h_t, .int p0])).length) Slot.unset).toArray = ls at hl ⊢
  have hl : lv_has ls 2 [(0, .ref h_t), (1, .int p0)] := hl
  have hinX8 : ∀ w ∈ wsX80, w ∈ wsX8_holderAt := hin_of in_X8
  have h := hF
  unfold F_X8_holderAt at h
  refine lv_iload_n hx hb dX8_holderAt_0 rfl (lv_at hl 1 rfl) ?_
  refine lv_if_lt (tgt := 19) hx hb dX8_holderAt_1 (by decide) (fun c1 => ?_) (fun c1 => ?_)
  · have h := it_p h c1
    refine lv_null hx hb dX8_holderAt_19 ?_
    have h9 := Option.some.inj h
    have e9 : 6 = r0 := congrArg (fun z9 => z9) h9
    subst e9
    exact k_aret (ro := none) hx hb hr (Or.inl ⟨_, rfl⟩) hlocks hP hS rfl dX8_holderAt_20
  have h := it_n h c1
  refine lv_iload_n hx hb dX8_holderAt_4 rfl (lv_at hl 1 rfl) ?_
  refine lv_bipush (v := (6 : Int32)) hx hb dX8_holderAt_5 (by decide) ?_
  refine lv_icmp_ge (tgt := 19) hx hb dX8_holderAt_7 (by decide) (fun c2 => ?_) (fun c2 => ?_)
  · have h := it_p h c2
    refine lv_null hx hb dX8_holderAt_19 ?_
    have h9 := Option.some.inj h
    have e9 : 6 = r0 := congrArg (fun z9 => z9) h9
    subst e9
    exact k_aret (ro := none) hx hb hr (Or.inl ⟨_, rfl⟩) hlocks hP hS rfl dX8_holderAt_20
  have h := it_n h c2
  refine lv_aload_n hx hb dX8_holderAt_10 rfl (lv_at hl 0 rfl) ?_
  refine va_get (D := G) (ci := 7) (v := .ref h_t_holders) (C := RX8) (T := TX8) (N := 9) hx hb hts hinX8 hown hK hP 0 rfl rfl 7 (by decide) (hta _ mw_371) (fun _ h9 => h9) rfl dX8_holderAt_11 ?_
  refine lv_iload_n hx hb dX8_holderAt_14 rfl (lv_at hl 1 rfl) ?_
  obtain ⟨hn3, h⟩ := ck_e h
  refine va_aldq hx hb hK hP 1 3 rfl rfl hn3 dX8_holderAt_15 ?_
  refine W.eq (g2 := F0 m 16 ls [.ref (d_t_holders p0.toNatClampNeg)]) rfl ?_
  refine lv_goto (tgt := 20) hx hb dX8_holderAt_16 (by decide) ?_
  have h9 := Option.some.inj h
  have e9 : p0.toNatClampNeg = r0 := congrArg (fun z9 => z9) h9
  subst e9
  exact k_aret (ro := (some (d_t_holders p0.toNatClampNeg))) hx hb hr (Or.inl ⟨_, rfl⟩) hlocks hP hS (by rw [if_neg (k_ne6 hn3)]) dX8_holderAt_20
theorem k_lt6 {n : Nat} (h : n < 6) : n = 0 ∨ n = 1 ∨ n = 2 ∨ n = 3 ∨ n = 4 ∨ n = 5 := by omega
theorem k_lt_X8_holderAt {p0 : Int32} {r : Nat} (h : F_X8_holderAt p0 = some r) : r < 7 := by
  unfold F_X8_holderAt at h
  split at h
  · cases h; decide
  · split at h
    · cases h; decide
    · obtain ⟨hn, h⟩ := ck_e h
      cases h; have := k_in_lt hn; omega
