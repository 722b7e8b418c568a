/-! The tape is fed. -/
def bv (p : Int32) (b : Nat) : Nat := ((iush p ((8 : Int32) * Int32.ofNat b)) &&& (255 : Int32)).toBitVec.toNat
theorem of_bv (x : Int32) : x = Int32.ofNat x.toBitVec.toNat := by
  apply Int32.toBitVec_inj.mp
  show x.toBitVec = BitVec.ofNat 32 x.toBitVec.toNat
  rw [BitVec.ofNat_toNat, BitVec.setWidth_eq]
theorem bv_e (p : Int32) (b : Nat) : (iush p ((8 : Int32) * Int32.ofNat b)) &&& (255 : Int32) = Int32.ofNat (bv p b) := of_bv _
theorem bv_lt (p : Int32) (b : Nat) : bv p b < 256 := by
  unfold bv
  rw [Int32.toBitVec_and, BitVec.toNat_and]
  have h : ((255 : Int32).toBitVec).toNat = 255 := rfl
  rw [h]
  have := @Nat.and_le_right (iush p ((8 : Int32) * Int32.ofNat b)).toBitVec.toNat 255
  omega
theorem fed8 {z n : Nat} (hn : n ≤ 4) (hz : z + n ≤ 60) (f : Nat → Int32) (p : Int32) : wq3 (B_X8_feed_33 p K_X8_feed_33_60) FU f (Int32.ofNat z) (Int32.ofNat n - (1 : Int32)) = some (Int32.ofNat (z + n), layd f z (fun i => Int32.ofNat (bv p (n - 1 - i))) n, Int32.ofNat (z + n)) := by
  have key := wq3_it (B := B_X8_feed_33 p K_X8_feed_33_60) n (fun j => layd f z (fun i => Int32.ofNat (bv p (n - 1 - i))) j) (fun j => Int32.ofNat (z + j)) (fun j => Int32.ofNat (n - j) - (1 : Int32)) (r := some (Int32.ofNat (z + n), layd f z (fun i => Int32.ofNat (bv p (n - 1 - i))) n, Int32.ofNat (z + n)))
    (fun j hj ag => by
      have e1 : Int32.ofNat (n - j) - (1 : Int32) = Int32.ofNat (n - 1 - j) := by rw [show (1 : Int32) = Int32.ofNat 1 from rfl, n_sub (by omega)]; congr 1; omega
      have e2 : Int32.ofNat (n - 1 - j) + (-1 : Int32) = Int32.ofNat (n - (j + 1)) - (1 : Int32) := by rw [Int32.sub_eq_add_neg]; congr 2; omega
      have e3 : Int32.ofNat (z + j) + (1 : Int32) = Int32.ofNat (z + (j + 1)) := n_add _ 1
      unfold B_X8_feed_33 F_X7_add
      have c60 : ¬ (60 : Int32) ≤ Int32.ofNat (z + j) := c_ge (m := 60) (by omega) (by omega) (by omega)
      rw [e1, if_neg (n_neg (by omega)), bv_e, if_neg c60, ck_n (by omega) (by omega), n_clamp (by omega), bd_s, e2, e3, layd_s f z (fun i => Int32.ofNat (bv p (n - 1 - i))) j])
    (fun ag => by
      unfold B_X8_feed_33
      rw [Nat.sub_self, if_pos (by decide)]; rfl) FU (by unfold FU; omega)
  try dsimp only at key
  rw [layd_0, Nat.add_zero, Nat.sub_zero] at key
  exact key
theorem fed9 {z n : Nat} (hn : n ≤ 4) (hz : z + n ≤ 60) (f : Nat → Int32) (p : Int32) : wq3 (B_X9_feed_32 p K_X9_feed_32_71) FU f (Int32.ofNat z) (Int32.ofNat n - (1 : Int32)) = some (Int32.ofNat (z + n), layd f z (fun i => Int32.ofNat (bv p (n - 1 - i))) n, Int32.ofNat (z + n)) := by
  have key := wq3_it (B := B_X9_feed_32 p K_X9_feed_32_71) n (fun j => layd f z (fun i => Int32.ofNat (bv p (n - 1 - i))) j) (fun j => Int32.ofNat (z + j)) (fun j => Int32.ofNat (n - j) - (1 : Int32)) (r := some (Int32.ofNat (z + n), layd f z (fun i => Int32.ofNat (bv p (n - 1 - i))) n, Int32.ofNat (z + n)))
    (fun j hj ag => by
      have e1 : Int32.ofNat (n - j) - (1 : Int32) = Int32.ofNat (n - 1 - j) := by rw [show (1 : Int32) = Int32.ofNat 1 from rfl, n_sub (by omega)]; congr 1; omega
      have e2 : Int32.ofNat (n - 1 - j) + (-1 : Int32) = Int32.ofNat (n - (j + 1)) - (1 : Int32) := by rw [Int32.sub_eq_add_neg]; congr 2; omega
      have e3 : Int32.ofNat (z + j) + (1 : Int32) = Int32.ofNat (z + (j + 1)) := n_add _ 1
      unfold B_X9_feed_32
      rw [e1, if_neg (n_neg (by omega)), bv_e, ck_n (by omega) (by omega), n_clamp (by omega), e2, e3, layd_s f z (fun i => Int32.ofNat (bv p (n - 1 - i))) j])
    (fun ag => by
      unfold B_X9_feed_32
      rw [Nat.sub_self, if_pos (by decide)]; rfl) FU (by unfold FU; omega)
  try dsimp only at key
  rw [layd_0, Nat.add_zero, Nat.sub_zero] at key
  exact key
theorem layd_app {f : Nat → Int32} {bs : List Nat} {r : Nat → Nat} {n : Nat} (h : ∀ k, k < bs.length → f k = Int32.ofNat (bs.getD k 0)) : ∀ k, k < (bs ++ (List.range n).map r).length → layd f bs.length (fun i => Int32.ofNat (r i)) n k = Int32.ofNat ((bs ++ (List.range n).map r).getD k 0) := fun k hk => by
  rw [List.length_append, List.length_map, List.length_range] at hk
  unfold layd
  rw [List.getD_eq_getElem?_getD]
  by_cases c : k < bs.length
  · rw [if_neg (by omega), List.getElem?_append_left c, h k c, List.getD_eq_getElem?_getD]
  · rw [if_pos (by omega), List.getElem?_append_right (by omega), List.getElem?_map, List.getElem?_range (by omega)]; rfl
theorem in14 (p : Int32) : (F_X9_in p.toInt64 (1 : Int64) (4 : Int64) = some 0 ∧ (p < (1 : Int32) ∨ ¬ p < (1 : Int32) ∧ ¬ p ≤ (4 : Int32))) ∨ ∃ n : Nat, 1 ≤ n ∧ n ≤ 4 ∧ p = Int32.ofNat n ∧ F_X9_in p.toInt64 (1 : Int64) (4 : Int64) = some 1 := by
  have e1 : (1 : Int64).toInt = 1 := rfl
  have e4 : (4 : Int64).toInt = 4 := rfl
  have f1 : (1 : Int32).toInt = 1 := rfl
  have f4 : (4 : Int32).toInt = 4 := rfl
  rw [in9i, e1, e4, Int32.lt_iff_toInt_lt, Int32.le_iff_toInt_le, f1, f4]
  by_cases c : 1 ≤ p.toInt ∧ p.toInt ≤ 4
  · obtain ⟨n, hn, rfl⟩ := i_ofNat (p := p) (by omega)
    rw [n_toInt hn] at c ⊢
    exact Or.inr ⟨n, by omega, by omega, rfl, by rw [if_pos c]⟩
  · exact Or.inl ⟨by rw [if_neg c], by omega⟩
theorem ls_feed : LS_feed LR := by
  intro k d_x_deeds_desks q_x_deeds_desks x_imageKept x_desk_genus x_desk_size x_desk_limit x_desk_tree a_x_desk_powers x_imageDesk_genus x_imageDesk_size x_imageDesk_limit x_imageDesk_tree a_x_imageDesk_powers x_deeds_now x_deeds_last a_x_deeds_desks x_deeds_desks_genus x_deeds_desks_size x_deeds_desks_limit x_deeds_desks_tree x_numbers_round x_numbers_size x_numbers_sum x_numbers_gathered a_x_numbers_keys a_x_numbers_aboves a_x_numbers_rounds x_reader_refused x_reader_place x_reader_cannotBe x_tape_size a_x_tape_bytes x_reader_told_genus x_reader_told_size x_reader_told_limit x_reader_told_tree a_x_reader_told_powers a_x_reader_causes x_speller_size a_x_speller_bytes a_x_holders x_holders_sort x_holders_tree x_holders_limit x_holders_above x_holders_size m_genus m_marks m_leaves m_splits m_done m_undone m_metMany m_treesSeen m_taped m_place m_isWrong m_toldGenus m_toldMarks m_isTree m_toldLeaves m_leavesPlace m_toldSplits m_isWhy m_papered m_isKept a_m_powers a_m_tree a_m_ahead a_m_behind a_m_before a_m_rows a_m_met a_m_metSizes a_m_chosen a_m_tape a_m_toldPowers a_m_powerPlaces a_m_toldTree a_m_splitPlaces a_m_layers a_m_paper a_m_held a_m_numbers a_m_sizes a_m_heldLeaves a_m_items a_m_kept p0 p1 hk hLR
  obtain ⟨us, cur, rs, bs, hV, h8, h9, hH8, hH9, hT, hTP, hWY, hHO, hIM⟩ := hLR
  have hVc : VD cur := hV cur (List.mem_append_right _ List.mem_cons_self)
  obtain ⟨t1, t2, t3, t4, t5⟩ := id hTP
  rcases in14 p1 with ⟨b, c⟩ | ⟨n, n1, n4, rfl, b⟩
  · refine ⟨-1, a_x_tape_bytes, x_tape_size, a_m_tape, m_taped, ?_, ?_, ⟨us, cur, rs, bs, hV, h8, h9, hH8, hH9, TN_mono hT, hTP, hWY, hHO, hIM⟩⟩
    · unfold F_X8_feed
      rcases c with c | ⟨c, d⟩
      · rw [if_pos c]
      · rw [if_neg c, if_neg d]
    · unfold F_X9_feed; rw [b, bd_s, if_pos i00]
  have c1 : ¬ Int32.ofNat n < (1 : Int32) := fun z => by have := (n_lt (b := 1) (by omega) (by omega)).mp z; omega
  have c4 : Int32.ofNat n ≤ (4 : Int32) := (n_le (b := 4) (by omega) (by omega)).mpr n4
  by_cases d : bs.length + n ≤ 60
  · have d1 : Int32.ofNat (bs.length + n) ≤ (60 : Int32) := (n_le (b := 60) (by omega) (by omega)).mpr d
    refine ⟨Int32.ofNat (bs.length + n), (layd a_x_tape_bytes bs.length (fun i => Int32.ofNat (bv p0 (n - 1 - i))) n), (Int32.ofNat (bs.length + n)), (layd a_m_tape bs.length (fun i => Int32.ofNat (bv p0 (n - 1 - i))) n), (Int32.ofNat (bs.length + n)), ?_, ?_, us, cur, rs, bs ++ (List.range n).map (fun i => bv p0 (n - 1 - i)), hV, h8, h9, hH8, hH9, TN_mono hT, ⟨?_, ?_, ?_, ?_, fun k hk => ⟨?_, ?_⟩⟩, hWY, hHO, hIM⟩
    · unfold F_X8_feed
      rw [if_neg c1, if_pos c4, t1, n_add, if_pos d1, fed8 n4 d]
    · unfold F_X9_feed
      rw [b, bd_s, if_neg i10, t2, n_add, if_pos d1, fed9 n4 d]
    · simp
    · simp
    · simp; omega
    · intro x hx
      rcases List.mem_append.mp hx with hx | hx
      · exact t4 x hx
      · obtain ⟨i, -, rfl⟩ := List.mem_map.mp hx
        exact bv_lt _ _
    · exact layd_app (fun k hk => (t5 k hk).1) k hk
    · exact layd_app (fun k hk => (t5 k hk).2) k hk
  · have d1 : ¬ Int32.ofNat (bs.length + n) ≤ (60 : Int32) := fun z => d ((n_le (b := 60) (by omega) (by omega)).mp z)
    refine ⟨-3, a_x_tape_bytes, x_tape_size, a_m_tape, m_taped, ?_, ?_, ⟨us, cur, rs, bs, hV, h8, h9, hH8, hH9, TN_mono hT, hTP, hWY, hHO, hIM⟩⟩
    · unfold F_X8_feed
      rw [if_neg c1, if_pos c4, t1, n_add, if_neg d1]
    · unfold F_X9_feed
      rw [b, bd_s, if_neg i10, t2, n_add, if_neg d1]
