/-! A mark goes. -/
theorem erase_D {f : Nat → Int32} {ps : List Nat} {i : Nat} (hi : i < ps.length) (h : ∀ k, k < ps.length → f k = Int32.ofNat (ps.getD k 0)) : ∀ k, k < (ps.eraseIdx i).length → (fun k => if i ≤ k ∧ k < ps.length - 1 then f (k + 1) else f k) k = Int32.ofNat ((ps.eraseIdx i).getD k 0) := fun k hk => by
  rw [List.length_eraseIdx_of_lt hi] at hk
  rw [List.getD_eq_getElem?_getD, List.getElem?_eraseIdx]
  show (if i ≤ k ∧ k < ps.length - 1 then f (k + 1) else f k) = _
  by_cases c : k < i
  · rw [if_neg (by omega), if_pos c, h k (by omega), List.getD_eq_getElem?_getD]
  · rw [if_pos (by omega), if_neg c, h (k + 1) (by omega), List.getD_eq_getElem?_getD]
theorem er_step (f : Nat → Int32) (i t : Nat) : upd (fun k => if i ≤ k ∧ k < i + t then f (k + 1) else f k) (i + t) (f (i + t + 1)) = fun k => if i ≤ k ∧ k < i + (t + 1) then f (k + 1) else f k := by
  funext k
  rw [upd_e]
  by_cases e : k = i + t
  · subst e; rw [if_pos rfl, if_pos (by omega)]
  · rw [if_neg e]
    by_cases d : i ≤ k ∧ k < i + t
    · rw [if_pos d, if_pos (by omega)]
    · rw [if_neg d, if_neg (by omega)]
theorem er_0 (f : Nat → Int32) (i : Nat) : (fun k => if i ≤ k ∧ k < i + 0 then f (k + 1) else f k) = f := by
  funext k; rw [if_neg (by omega)]
theorem er_N (f : Nat → Int32) {i n : Nat} (h : i < n) : (fun k => if i ≤ k ∧ k < i + (n - 1 - i) then f (k + 1) else f k) = fun k => if i ≤ k ∧ k < n - 1 then f (k + 1) else f k := by
  rw [show i + (n - 1 - i) = n - 1 by omega]
theorem dropMark8 {n i : Nat} (hn : n ≤ 8) (hi : i < n) (f : Nat → Int32) : F_X1_dropMark (Int32.ofNat n) f (Int32.ofNat i) = some ((fun k => if i ≤ k ∧ k < n - 1 then f (k + 1) else f k), Int32.ofNat (n - 1)) := by
  unfold F_X1_dropMark
  have e1 : ∀ j, Int32.ofNat j + (1 : Int32) = Int32.ofNat (j + 1) := fun j => n_add j 1
  have en : Int32.ofNat n - (1 : Int32) = Int32.ofNat (n - 1) := n_sub (b := 1) (by omega)
  have key := wq2_it (B := B_X1_dropMark_2 (Int32.ofNat n) (K_X1_dropMark_2_30 (Int32.ofNat n))) (n - 1 - i) (fun t k => if i ≤ k ∧ k < i + t then f (k + 1) else f k) (fun t => Int32.ofNat (i + t)) (r := some ((fun k => if i ≤ k ∧ k < n - 1 then f (k + 1) else f k), Int32.ofNat (n - 1)))
    (fun t ht ag => by
      unfold B_X1_dropMark_2
      rw [en, if_neg (c_ge (by omega) (by omega) (by omega)), e1, powerAt8 (by omega), bd_s, setPower8 (by omega), bd_s, if_neg (show ¬ (i ≤ i + t + 1 ∧ i + t + 1 < i + t) by omega), er_step]
      rfl)
    (fun ag => by
      unfold B_X1_dropMark_2 K_X1_dropMark_2_30
      try dsimp only
      rw [en, show i + (n - 1 - i) = n - 1 by omega, if_pos ((n_le (by omega) (by omega)).mpr (Nat.le_refl _))]) FU (by unfold FU; omega)
  have k2 : wq2 (B_X1_dropMark_2 (Int32.ofNat n) (K_X1_dropMark_2_30 (Int32.ofNat n))) FU (fun k => if i ≤ k ∧ k < i + 0 then f (k + 1) else f k) (Int32.ofNat (i + 0)) = some ((fun k => if i ≤ k ∧ k < n - 1 then f (k + 1) else f k), Int32.ofNat (n - 1)) := key
  rw [er_0] at k2
  exact k2
theorem ls_take : LS_take LR := by
  intro k d_x_deeds_desks q_x_deeds_desks x_imageKept x_desk_genus x_desk_size x_desk_limit x_desk_tree a_x_desk_powers x_imageDesk_genus x_imageDesk_size x_imageDesk_limit x_imageDesk_tree a_x_imageDesk_powers x_deeds_now x_deeds_last a_x_deeds_desks x_deeds_desks_genus x_deeds_desks_size x_deeds_desks_limit x_deeds_desks_tree x_numbers_round x_numbers_size x_numbers_sum x_numbers_gathered a_x_numbers_keys a_x_numbers_aboves a_x_numbers_rounds x_reader_refused x_reader_place x_reader_cannotBe x_tape_size a_x_tape_bytes x_reader_told_genus x_reader_told_size x_reader_told_limit x_reader_told_tree a_x_reader_told_powers a_x_reader_causes x_speller_size a_x_speller_bytes a_x_holders x_holders_sort x_holders_tree x_holders_limit x_holders_above x_holders_size m_genus m_marks m_leaves m_splits m_done m_undone m_metMany m_treesSeen m_taped m_place m_isWrong m_toldGenus m_toldMarks m_isTree m_toldLeaves m_leavesPlace m_toldSplits m_isWhy m_papered m_isKept a_m_powers a_m_tree a_m_ahead a_m_behind a_m_before a_m_rows a_m_met a_m_metSizes a_m_chosen a_m_tape a_m_toldPowers a_m_powerPlaces a_m_toldTree a_m_splitPlaces a_m_layers a_m_paper a_m_held a_m_numbers a_m_sizes a_m_heldLeaves a_m_items a_m_kept p0 hk hLR
  obtain ⟨us, cur, rs, bs, hV, h8, h9, hH8, hH9, hT, hTP, hWY, hHO, hIM⟩ := hLR
  have hVc : VD cur := hV cur (List.mem_append_right _ List.mem_cons_self)
  obtain ⟨q1, q2, q3, q4, q5⟩ := id h8
  obtain ⟨w1, w2, w3, w4, w5, w6⟩ := id h9
  have n8 := hVc.2.1
  have hm8 : F_X1_hasMark x_desk_size p0 = some (if 0 ≤ p0.toInt ∧ p0.toInt < cur.2.1.length then 1 else 0) := by rw [q2]; exact hasMark8 (by omega) p0
  have hm9 : F_X9_isMark m_marks p0 = some (if 0 ≤ p0.toInt ∧ p0.toInt < cur.2.1.length then 1 else 0) := by rw [w2]; exact isMark9 (by omega) p0
  by_cases c : 0 ≤ p0.toInt ∧ p0.toInt < cur.2.1.length
  · obtain ⟨i, hi, rfl⟩ := i_ofNat c.1
    have hi2 : i < cur.2.1.length := by rw [n_toInt hi] at c; omega
    rw [if_pos c] at hm8 hm9
    have hvn : VD (cur.1, cur.2.1.eraseIdx i, cur.2.2) := ⟨hVc.1, by rw [List.length_eraseIdx_of_lt hi2]; omega, fun d hd => hVc.2.2.1 d (List.mem_of_mem_eraseIdx hd), hVc.2.2.2⟩
    have hlen : Int32.ofNat (cur.2.1.length - 1) = Int32.ofNat (cur.2.1.eraseIdx i).length := by rw [List.length_eraseIdx_of_lt hi2]
    have d8 : D8 x_desk_genus (Int32.ofNat (cur.2.1.length - 1)) x_desk_limit x_desk_tree (fun k => if i ≤ k ∧ k < cur.2.1.length - 1 then a_x_desk_powers (k + 1) else a_x_desk_powers k) (cur.1, cur.2.1.eraseIdx i, cur.2.2) := ⟨q1, hlen, q3, q4, erase_D hi2 q5⟩
    have d9 : D9 m_genus (Int32.ofNat (cur.2.1.length - 1)) m_leaves m_splits (fun k => if i ≤ k ∧ k < cur.2.1.length - 1 then a_m_powers (k + 1) else a_m_powers k) a_m_tree (cur.1, cur.2.1.eraseIdx i, cur.2.2) := ⟨w1, hlen, w3, w4, erase_D hi2 w5, w6⟩
    obtain ⟨now', last', fp', d', fg', fl', q', fs', ft', es, hs⟩ := settle8 d_x_deeds_desks q_x_deeds_desks hH8 d8 hV hvn
    obtain ⟨bf, eb, hb⟩ := begins9 h9 hVc a_m_before
    obtain ⟨be', ah', un', do', ee, he⟩ := ends9 d9 hvn hVc hb hH9 hH8.2.2.1
    refine ⟨Int32.ofNat (cur.2.1.length - 1), (fun k => if i ≤ k ∧ k < cur.2.1.length - 1 then a_x_desk_powers (k + 1) else a_x_desk_powers k), (Int32.ofNat (cur.2.1.length - 1)), now', last', fp', d', fg', fl', q', fs', ft', bf, (fun k => if i ≤ k ∧ k < cur.2.1.length - 1 then a_m_powers (k + 1) else a_m_powers k), be', ah', (Int32.ofNat (cur.2.1.length - 1)), un', do', ?_, ?_, _, _, _, bs, stl_V hV hvn, d8, d9, hs, he, TN_mono hT, hTP, hWY, hHO, hIM⟩
    · unfold F_X8_take
      rw [hm8, bd_s, if_neg i10, q2, dropMark8 n8 hi2, bd_s, es, bd_s]
    · unfold F_X9_take
      rw [hm9, bd_s, if_neg i10, eb, bd_s, w2]
      have e1 : ∀ j, Int32.ofNat j + (1 : Int32) = Int32.ofNat (j + 1) := fun j => n_add j 1
      have en : Int32.ofNat cur.2.1.length - (1 : Int32) = Int32.ofNat (cur.2.1.length - 1) := n_sub (b := 1) (by omega)
      have key := fun r hr => wq2_it (B := B_X9_take_26 (Int32.ofNat cur.2.1.length) (K_X9_take_26_54 m_genus (Int32.ofNat cur.2.1.length) m_leaves m_splits m_done m_undone a_m_tree a_m_behind a_m_ahead bf)) (cur.2.1.length - 1 - i) (fun t k => if i ≤ k ∧ k < i + t then a_m_powers (k + 1) else a_m_powers k) (fun t => Int32.ofNat (i + t)) (r := r)
        (fun t ht ag => by
          unfold B_X9_take_26
          rw [en, if_neg (c_ge (by omega) (by omega) (by omega)), e1, ck_n (by omega) (by omega), ck_n (by omega) (by omega), n_clamp (by omega), n_clamp (by omega)]
          dsimp only
          rw [if_neg (show ¬ (i ≤ i + t + 1 ∧ i + t + 1 < i + t) by omega), er_step]
          rfl) hr FU (by unfold FU; omega)
      have k2 := key _ (fun ag => by
        unfold B_X9_take_26 K_X9_take_26_54
        try dsimp only
        rw [en, show i + (cur.2.1.length - 1 - i) = cur.2.1.length - 1 by omega, if_pos ((n_le (by omega) (by omega)).mpr (Nat.le_refl _)), ee, bd_s])
      dsimp only at k2
      rw [er_0] at k2
      exact k2
  · rw [if_neg c] at hm8 hm9
    refine ⟨-1, a_x_desk_powers, x_desk_size, x_deeds_now, x_deeds_last, a_x_deeds_desks, d_x_deeds_desks, x_deeds_desks_genus, x_deeds_desks_limit, q_x_deeds_desks, x_deeds_desks_size, x_deeds_desks_tree, a_m_before, a_m_powers, a_m_behind, a_m_ahead, m_marks, m_undone, m_done, ?_, ?_, ⟨us, cur, rs, bs, hV, h8, h9, hH8, hH9, TN_mono hT, hTP, hWY, hHO, hIM⟩⟩
    · unfold F_X8_take; rw [hm8, bd_s, if_pos i00]
    · unfold F_X9_take; rw [hm9, bd_s, if_pos i00]
